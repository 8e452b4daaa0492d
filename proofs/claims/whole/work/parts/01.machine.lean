/-! ===== the abstract machine: memory, frames, one step ===== -/
abbrev aMem : Type := (Nat → Nat → Int32) × (Nat → Nat → Int64) × (Nat → Nat → Nat)
abbrev aLs : Type := List (Nat × Value)
abbrev aFr : Type := Nat × aLs × List Value
abbrev aSh : Type := List (Nat × Nat)
/-- an instruction: pc, instruction, length, what it links, constants, locals that live behind it, targets with what lives there -/
abbrev aE : Type := Nat × Instr × Nat × List Nat × List Value × List Nat × List (Nat × List Nat)
abbrev aAct : Type := (aFr × aMem × aSh) ⊕ ((List (Bool × aFr) × aFr × aMem) ⊕ ((Option Value × aMem) ⊕ (Nat × Nat × List Value × aFr × aMem)))
def u2 {α : Type} (f : Nat → Nat → α) (a k : Nat) (x : α) : Nat → Nat → α := va_up f a (va_up (f a) k x)
def aUI (m : aMem) (a k : Nat) (x : Int32) : aMem := (u2 m.1 a k x, m.2.1, m.2.2)
def aUL (m : aMem) (a k : Nat) (x : Int64) : aMem := (m.1, u2 m.2.1 a k x, m.2.2)
def aUR (m : aMem) (a k : Nat) (x : Nat) : aMem := (m.1, m.2.1, u2 m.2.2 a k x)
/-- a whole row of ints anew -/
def aUW (m : aMem) (a : Nat) (r : Nat → Int32) : aMem := (va_up m.1 a r, m.2.1, m.2.2)
def aCan (lv : List Nat) (ls : aLs) : aLs := lv.filterMap (fun i => ls.find? (fun q => q.1 == i))
/-- the list [] says: keep all -/
def aKp (lv : List Nat) (ls : aLs) : aLs := match lv with
  | [] => ls
  | i :: r => aCan (i :: r) ls
def aGet (ls : aLs) (i : Nat) : Option Value := (ls.find? (fun q => q.1 == i)).map (fun q => q.2)
def aPut (ls : aLs) (i : Nat) (v : Value) : aLs := (i, v) :: ls.filter (fun q => !(q.1 == i) && !(q.1 + 1 == i && q.2.category == 2))
def shAt (sh : aSh) (a : Nat) : Nat × Nat := sh.getD a (9, 0)
def isO (sh : aSh) (a ci : Nat) : Bool := (shAt sh a).1 == 0 && (shAt sh a).2 == ci
def isA (sh : aSh) (a kd : Nat) : Bool := (shAt sh a).1 == kd
def inb (i : Int32) (n : Nat) : Bool := decide (¬ (i < 0 ∨ n ≤ i.toNatClampNeg))
def inA (sh : aSh) (a kd : Nat) (i : Int32) : Bool := (shAt sh a).1 == kd && inb i (shAt sh a).2
def isB (x : Int32) : Bool := decide (x = 0) || decide (x = 1)
def aGo (g : Bool) (fr : aFr) (m : aMem) : Option (Bool × aAct) := some (g, .inl (fr, m, []))
def aTo (t : Nat × List Nat) (ls : aLs) (st : List Value) : aFr := (t.1, aKp t.2 ls, st)
def aSw (x : Int32) (ls : aLs) (st : List Value) : List Value → List (Nat × List Nat) → List (Bool × aFr)
  | .int c :: cs, t :: ts => (decide (x = c), aTo t ls st) :: aSw x ls st cs ts
  | _, _ => []
def aC0 (c : ClassFile.Cond) (x : Int32) : Bool := match c with
  | .eq => decide (x = 0) | .ne => decide (¬ x = 0) | .lt => decide (x < 0) | .ge => decide (0 ≤ x) | .gt => decide (0 < x) | .le => decide (x ≤ 0)
def aC2 (c : ClassFile.Cond) (x y : Int32) : Bool := match c with
  | .eq => decide (x = y) | .ne => decide (¬ x = y) | .lt => decide (x < y) | .ge => decide (y ≤ x) | .gt => decide (y < x) | .le => decide (x ≤ y)
/-- loads and constants -/
def aLoad (e : aE) (i : Nat) (kd : Nat) (ls : aLs) (st : List Value) (m : aMem) : Option (Bool × aAct) :=
  match kd, aGet ls i with
  | 0, some (.int x) => aGo true (e.1 + e.2.2.1, aKp e.2.2.2.2.2.1 ls, .int x :: st) m
  | 1, some (.long x) => aGo true (e.1 + e.2.2.1, aKp e.2.2.2.2.2.1 ls, .long x :: st) m
  | 2, some (.ref x) => aGo true (e.1 + e.2.2.1, aKp e.2.2.2.2.2.1 ls, .ref x :: st) m
  | _, _ => none
def aBin (e : aE) (f : Int32 → Int32 → Int32) (ls : aLs) (st : List Value) (m : aMem) : Option (Bool × aAct) :=
  match st with
  | .int y :: .int x :: r => aGo true (e.1 + e.2.2.1, aKp e.2.2.2.2.2.1 ls, .int (f x y) :: r) m
  | _ => none
def aGetf (fm : Bool) (SR : Nat → Nat → Nat) (sh : aSh) (e : aE) (ls : aLs) (st : List Value) (m : aMem) : Option (Bool × aAct) :=
  match e.2.2.2.1, st with
  | ci :: k :: kd :: _, .ref a :: r =>
    match kd with
    | 0 => aGo (isO sh a ci) (e.1 + e.2.2.1, aKp e.2.2.2.2.2.1 ls, .int (m.1 a k) :: r) m
    | 4 => aGo (isO sh a ci) (e.1 + e.2.2.1, aKp e.2.2.2.2.2.1 ls, .int (m.1 a k) :: r) m
    | 1 => aGo (isO sh a ci) (e.1 + e.2.2.1, aKp e.2.2.2.2.2.1 ls, .long (m.2.1 a k) :: r) m
    | 2 => aGo (isO sh a ci && !(m.2.2 a k == 0)) (e.1 + e.2.2.1, aKp e.2.2.2.2.2.1 ls, .ref (m.2.2 a k) :: r) m
    | 3 => match fm with
      | true => aGo (isO sh a ci) (e.1 + e.2.2.1, aKp e.2.2.2.2.2.1 ls, .ref (SR a k) :: r) m
      | false => aGo (isO sh a ci && !(m.2.2 a k == 0)) (e.1 + e.2.2.1, aKp e.2.2.2.2.2.1 ls, .ref (m.2.2 a k) :: r) m
    | _ => none
  | _, _ => none
def aPutf (fm : Bool) (sh : aSh) (e : aE) (ls : aLs) (st : List Value) (m : aMem) : Option (Bool × aAct) :=
  match e.2.2.2.1 with
  | ci :: k :: kd :: fin :: _ =>
    bif fm && (fin == 1) then none else
    match kd, st with
    | 0, .int x :: .ref a :: r => aGo (isO sh a ci) (e.1 + e.2.2.1, aKp e.2.2.2.2.2.1 ls, r) (aUI m a k x)
    | 4, .int x :: .ref a :: r => aGo (isO sh a ci && isB x) (e.1 + e.2.2.1, aKp e.2.2.2.2.2.1 ls, r) (aUI m a k x)
    | 1, .long x :: .ref a :: r => aGo (isO sh a ci) (e.1 + e.2.2.1, aKp e.2.2.2.2.2.1 ls, r) (aUL m a k x)
    | 2, .ref x :: .ref a :: r => aGo (isO sh a ci && !(x == 0)) (e.1 + e.2.2.1, aKp e.2.2.2.2.2.1 ls, r) (aUR m a k x)
    | 3, .ref x :: .ref a :: r => aGo (isO sh a ci && !(x == 0)) (e.1 + e.2.2.1, aKp e.2.2.2.2.2.1 ls, r) (aUR m a k x)
    | _, _ => none
  | _ => none
def aInv (sh : aSh) (e : aE) (ls : aLs) (st : List Value) (m : aMem) : Option (Bool × aAct) :=
  match e.2.2.2.1 with
  | j :: n :: rk :: vk :: q =>
    match vk with
    | 3 => match st with
      | .ref _ :: r => aGo (Nat.ble ((r.map fun v => v.category).sum) 8) (e.1 + e.2.2.1, aKp e.2.2.2.2.2.1 ls, r) m
      | _ => none
    | 4 => match st with
      | .int n :: .int dp :: .ref d :: .int sp :: .ref s :: r =>
        aGo (isA sh s 1 && isA sh d 1 && decide (¬ sp < 0) && decide (¬ dp < 0) && decide (¬ n < 0) && Nat.ble (sp.toNatClampNeg + n.toNatClampNeg) (shAt sh s).2 && Nat.ble (dp.toNatClampNeg + n.toNatClampNeg) (shAt sh d).2 && Nat.ble ((r.map fun v => v.category).sum) 8)
          (e.1 + e.2.2.1, aKp e.2.2.2.2.2.1 ls, r) (aUW m d (va_cpy (m.1 s) (m.1 d) sp.toNatClampNeg dp.toNatClampNeg n.toNatClampNeg))
      | _ => none
    | 0 | 5 => some (Nat.ble (((st.drop n).map fun v => v.category).sum) 8 && (Nat.ble n st.length && Nat.ble (((st.take n).map fun v => v.category).sum) (q.getD 1 0)), .inr (.inr (.inr (j, rk, (st.take n).reverse, (e.1 + e.2.2.1, aKp e.2.2.2.2.2.1 ls, st.drop n), m))))
    | _ => match st.drop (n - 1), q with
      | .ref a :: r, ci :: _ => some (isO sh a ci && (Nat.ble ((r.map fun v => v.category).sum) 8 && Nat.ble (((st.take (n - 1)).map fun v => v.category).sum + 1) (q.getD 1 0)), .inr (.inr (.inr (j, rk, .ref a :: (st.take (n - 1)).reverse, (e.1 + e.2.2.1, aKp e.2.2.2.2.2.1 ls, r), m))))
      | _, _ => none
  | _ => none
/-- arrays -/
def aArr (sh : aSh) (e : aE) (ls : aLs) (st : List Value) (m : aMem) : Option (Bool × aAct) :=
  match e.2.1, e.2.2.2.1, st with
  | .iaload, [1], .int i :: .ref a :: r => aGo (inA sh a 1 i) (e.1 + e.2.2.1, aKp e.2.2.2.2.2.1 ls, .int (m.1 a i.toNatClampNeg) :: r) m
  | .iaload, [6], .int i :: .ref a :: r => aGo (isA sh a 6 && inb i (m.2.2 a 0)) (e.1 + e.2.2.1, aKp e.2.2.2.2.2.1 ls, .int (m.1 a i.toNatClampNeg) :: r) m
  | .baload, [2], .int i :: .ref a :: r => aGo (inA sh a 2 i) (e.1 + e.2.2.1, aKp e.2.2.2.2.2.1 ls, .int (m.1 a i.toNatClampNeg) :: r) m
  | .baload, [3], .int i :: .ref a :: r => aGo (inA sh a 3 i) (e.1 + e.2.2.1, aKp e.2.2.2.2.2.1 ls, .int (m.1 a i.toNatClampNeg) :: r) m
  | .laload, [4], .int i :: .ref a :: r => aGo (inA sh a 4 i) (e.1 + e.2.2.1, aKp e.2.2.2.2.2.1 ls, .long (m.2.1 a i.toNatClampNeg) :: r) m
  | .laload, [7], .int i :: .ref a :: r => aGo (inA sh a 7 i) (e.1 + e.2.2.1, aKp e.2.2.2.2.2.1 ls, .long (m.2.1 a i.toNatClampNeg) :: r) m
  | .aaload, _, .int i :: .ref a :: r => aGo (inA sh a 5 i && !(m.2.2 a i.toNatClampNeg == 0)) (e.1 + e.2.2.1, aKp e.2.2.2.2.2.1 ls, .ref (m.2.2 a i.toNatClampNeg) :: r) m
  | .iastore, _, .int x :: .int i :: .ref a :: r => aGo (inA sh a 1 i) (e.1 + e.2.2.1, aKp e.2.2.2.2.2.1 ls, r) (aUI m a i.toNatClampNeg x)
  | .bastore, [2], .int x :: .int i :: .ref a :: r => aGo (inA sh a 2 i) (e.1 + e.2.2.1, aKp e.2.2.2.2.2.1 ls, r) (aUI m a i.toNatClampNeg x.toInt8.toInt32)
  | .bastore, [3], .int x :: .int i :: .ref a :: r => aGo (inA sh a 3 i && isB x) (e.1 + e.2.2.1, aKp e.2.2.2.2.2.1 ls, r) (aUI m a i.toNatClampNeg x)
  | .lastore, _, .long x :: .int i :: .ref a :: r => aGo (inA sh a 4 i) (e.1 + e.2.2.1, aKp e.2.2.2.2.2.1 ls, r) (aUL m a i.toNatClampNeg x)
  | .aastore, _, .ref x :: .int i :: .ref a :: r => aGo (inA sh a 5 i && isA sh x 1) (e.1 + e.2.2.1, aKp e.2.2.2.2.2.1 ls, r) (aUR m a i.toNatClampNeg x)
  | .arraylength, [6], .ref a :: r => aGo (isA sh a 6) (e.1 + e.2.2.1, aKp e.2.2.2.2.2.1 ls, .int (Int32.ofNat (m.2.2 a 0)) :: r) m
  | .arraylength, [kd], .ref a :: r => aGo (isA sh a kd && !(kd == 0) && !(kd == 5) && Nat.ble kd 7) (e.1 + e.2.2.1, aKp e.2.2.2.2.2.1 ls, .int (Int32.ofNat (shAt sh a).2) :: r) m
  | _, _, _ => none
/-- what is made: only where fm is false -/
def aNew (fm : Bool) (sh : aSh) (e : aE) (ls : aLs) (st : List Value) (m : aMem) : Option (Bool × aAct) :=
  bif fm then none else
  match e.2.1, e.2.2.2.1, st with
  | .new _, ci :: _, st => some (true, .inl ((e.1 + e.2.2.1, aKp e.2.2.2.2.2.1 ls, .ref sh.length :: st), (va_up m.1 sh.length (fun _ => 0), va_up m.2.1 sh.length (fun _ => 0), va_up m.2.2 sh.length (fun _ => 0)), [(0, ci)]))
  | .newarray _, [kd], .int n :: r => some (decide (¬ n < 0) && Nat.ble n.toNatClampNeg 100000, .inl ((e.1 + e.2.2.1, aKp e.2.2.2.2.2.1 ls, .ref sh.length :: r), (va_up m.1 sh.length (fun _ => 0), va_up m.2.1 sh.length (fun _ => 0), m.2.2), [(kd, n.toNatClampNeg)]))
  | .multianewarray _ _, _, .int k :: .int n :: r => some (decide (¬ n < 0) && decide (¬ k < 0) && Nat.ble n.toNatClampNeg 1000 && Nat.ble k.toNatClampNeg 1000, .inl ((e.1 + e.2.2.1, aKp e.2.2.2.2.2.1 ls, .ref sh.length :: r), ((fun a => if sh.length < a ∧ a ≤ sh.length + n.toNatClampNeg then fun _ => 0 else m.1 a), m.2.1, va_up m.2.2 sh.length (fun i => if i < n.toNatClampNeg then sh.length + 1 + i else 0)), (5, n.toNatClampNeg) :: List.replicate n.toNatClampNeg (1, k.toNatClampNeg)))
  | _, _, _ => none
def aStep (fm : Bool) (SR : Nat → Nat → Nat) (sh : aSh) (e : aE) (ls : aLs) (st : List Value) (m : aMem) : Option (Bool × aAct) :=
  match e.2.1 with
  | .iconst _ | .bipush _ | .sipush _ | .ldc _ | .ldc_w _ | .ldc2_w _ | .lconst _ => match e.2.2.2.2.1 with
    | v :: _ => aGo true (e.1 + e.2.2.1, aKp e.2.2.2.2.2.1 ls, v :: st) m
    | _ => none
  | .iload i => aLoad e i 0 ls st m
  | .iload_n i => aLoad e i.val 0 ls st m
  | .lload i => aLoad e i 1 ls st m
  | .lload_n i => aLoad e i.val 1 ls st m
  | .aload i => aLoad e i 2 ls st m
  | .aload_n i => aLoad e i.val 2 ls st m
  | .istore i => match st with
    | .int x :: r => aGo true (e.1 + e.2.2.1, aKp e.2.2.2.2.2.1 (aPut ls i (.int x)), r) m
    | _ => none
  | .istore_n i => match st with
    | .int x :: r => aGo true (e.1 + e.2.2.1, aKp e.2.2.2.2.2.1 (aPut ls i.val (.int x)), r) m
    | _ => none
  | .astore i => match st with
    | .ref x :: r => aGo true (e.1 + e.2.2.1, aKp e.2.2.2.2.2.1 (aPut ls i (.ref x)), r) m
    | _ => none
  | .astore_n i => match st with
    | .ref x :: r => aGo true (e.1 + e.2.2.1, aKp e.2.2.2.2.2.1 (aPut ls i.val (.ref x)), r) m
    | _ => none
  | .iinc i _ => match aGet ls i, e.2.2.2.2.1 with
    | some (.int x), .int c :: _ => aGo true (e.1 + e.2.2.1, aKp e.2.2.2.2.2.1 (aPut ls i (.int (x + c))), st) m
    | _, _ => none
  | .iadd => aBin e (fun x y => x + y) ls st m
  | .isub => aBin e (fun x y => x - y) ls st m
  | .imul => aBin e (fun x y => x * y) ls st m
  | .iand => aBin e (fun x y => x &&& y) ls st m
  | .ior => aBin e (fun x y => x ||| y) ls st m
  | .ixor => aBin e (fun x y => x ^^^ y) ls st m
  | .ishl => aBin e (fun x y => x <<< (y &&& 31)) ls st m
  | .ishr => aBin e (fun x y => x >>> (y &&& 31)) ls st m
  | .iushr => aBin e (fun x y => (x.toUInt32 >>> (y.toUInt32 &&& Int32.toUInt32 31)).toInt32) ls st m
  | .idiv => match st with
    | .int y :: .int x :: r => aGo (decide (¬ y = 0)) (e.1 + e.2.2.1, aKp e.2.2.2.2.2.1 ls, .int (x / y) :: r) m
    | _ => none
  | .irem => match st with
    | .int y :: .int x :: r => aGo (decide (¬ y = 0)) (e.1 + e.2.2.1, aKp e.2.2.2.2.2.1 ls, .int (x - x / y * y) :: r) m
    | _ => none
  | .ineg => match st with
    | .int x :: r => aGo true (e.1 + e.2.2.1, aKp e.2.2.2.2.2.1 ls, .int (-x) :: r) m
    | _ => none
  | .i2b => match st with
    | .int x :: r => aGo true (e.1 + e.2.2.1, aKp e.2.2.2.2.2.1 ls, .int x.toInt8.toInt32 :: r) m
    | _ => none
  | .i2l => match st with
    | .int x :: r => aGo true (e.1 + e.2.2.1, aKp e.2.2.2.2.2.1 ls, .long x.toInt64 :: r) m
    | _ => none
  | .lor => match st with
    | .long y :: .long x :: r => aGo true (e.1 + e.2.2.1, aKp e.2.2.2.2.2.1 ls, .long (x ||| y) :: r) m
    | _ => none
  | .lshl => match st with
    | .int y :: .long x :: r => aGo true (e.1 + e.2.2.1, aKp e.2.2.2.2.2.1 ls, .long (x <<< (y.toInt64 &&& 63)) :: r) m
    | _ => none
  | .lcmp => match st with
    | .long y :: .long x :: r => aGo true (e.1 + e.2.2.1, aKp e.2.2.2.2.2.1 ls, .int (lg_cmp x y) :: r) m
    | _ => none
  | .dup => match st with
    | v :: r => aGo (v.category == 1) (e.1 + e.2.2.1, aKp e.2.2.2.2.2.1 ls, v :: v :: r) m
    | _ => none
  | .dup2 => match st with
    | v :: w :: r => aGo (v.category == 1 && w.category == 1) (e.1 + e.2.2.1, aKp e.2.2.2.2.2.1 ls, v :: w :: v :: w :: r) m
    | _ => none
  | .pop => match st with
    | v :: r => aGo (v.category == 1) (e.1 + e.2.2.1, aKp e.2.2.2.2.2.1 ls, r) m
    | _ => none
  | .goto _ => match e.2.2.2.2.2.2 with
    | t :: _ => aGo true (aTo t ls st) m
    | _ => none
  | .ifCond c _ => match st, e.2.2.2.2.2.2 with
    | .int x :: r, t :: _ => some (true, .inr (.inl ([(aC0 c x, aTo t ls r)], (e.1 + e.2.2.1, aKp e.2.2.2.2.2.1 ls, r), m)))
    | _, _ => none
  | .if_icmp c _ => match st, e.2.2.2.2.2.2 with
    | .int y :: .int x :: r, t :: _ => some (true, .inr (.inl ([(aC2 c x y, aTo t ls r)], (e.1 + e.2.2.1, aKp e.2.2.2.2.2.1 ls, r), m)))
    | _, _ => none
  | .tableswitch _ _ _ _ => match st, e.2.2.2.2.2.2 with
    | .int x :: r, t :: ts => some (true, .inr (.inl (aSw x ls r e.2.2.2.2.1 ts, aTo t ls r, m)))
    | _, _ => none
  | .lookupswitch _ _ => match st, e.2.2.2.2.2.2 with
    | .int x :: r, t :: ts => some (true, .inr (.inl (aSw x ls r e.2.2.2.2.1 ts, aTo t ls r, m)))
    | _, _ => none
  | .getfield _ => aGetf fm SR sh e ls st m
  | .putfield _ => aPutf fm sh e ls st m
  | .getstatic _ => aGo true (e.1 + e.2.2.1, aKp e.2.2.2.2.2.1 ls, .ref 1 :: st) m
  | .iaload | .baload | .laload | .aaload | .iastore | .bastore | .lastore | .aastore | .arraylength => aArr sh e ls st m
  | .invokevirtual _ | .invokespecial _ | .invokestatic _ => aInv sh e ls st m
  | .new _ | .newarray _ | .multianewarray _ _ => aNew fm sh e ls st m
  | .ireturn => match st, e.2.2.2.1 with
    | [.int x], [0] => some (true, .inr (.inr (.inl (some (.int x), m))))
    | [.int x], [1] => some (isB x, .inr (.inr (.inl (some (.int x), m))))
    | _, _ => none
  | .return_ => match st with
    | [] => some (true, .inr (.inr (.inl (none, m))))
    | _ => none
  | _ => none
def aFetch (tb : List aE) (pc : Nat) : Option aE := tb.find? (fun e => e.1 == pc)
def aSt1 (fm : Bool) (SR : Nat → Nat → Nat) (sh : aSh) (tb : List aE) (fr : aFr) (m : aMem) : Option (Bool × aAct) :=
  match aFetch tb fr.1 with
  | none => none
  | some e => aStep fm SR sh e fr.2.1 fr.2.2 m
def aPick : List (Bool × aFr) → aFr → aFr
  | [], f => f
  | (c, g) :: r, f => bif c then g else aPick r f
/-! iteration without fuel -/
def aItN {σ ρ : Type} (f : σ → Option (σ ⊕ ρ)) : Nat → σ → Option ρ
  | 0, _ => none
  | n + 1, s => match f s with
    | none => none
    | some (.inl s') => aItN f n s'
    | some (.inr r) => some r
theorem aItN_mono {σ ρ : Type} (f : σ → Option (σ ⊕ ρ)) : ∀ (n : Nat) (s : σ) (r : ρ), aItN f n s = some r → ∀ k, aItN f (n + k) s = some r
  | 0, s, r, h, k => by simp [aItN] at h
  | n + 1, s, r, h, k => by
    rw [show n + 1 + k = (n + k) + 1 by omega]
    simp only [aItN] at h ⊢
    cases hf : f s with
    | none => rw [hf] at h; simp at h
    | some x =>
      rw [hf] at h
      cases x with
      | inl s' => exact aItN_mono f n s' r h k
      | inr r' => exact h
theorem aItN_det {σ ρ : Type} (f : σ → Option (σ ⊕ ρ)) {n k : Nat} {s : σ} {r r' : ρ} (h : aItN f n s = some r) (h' : aItN f k s = some r') : r = r' := by
  have h1 := aItN_mono f n s r h k
  have h2 := aItN_mono f k s r' h' n
  rw [Nat.add_comm] at h2
  exact Option.some.inj (h1.symm.trans h2)
noncomputable def aIt {σ ρ : Type} (f : σ → Option (σ ⊕ ρ)) (s : σ) : Option ρ :=
  @dite (Option ρ) (∃ r : ρ, ∃ n : Nat, aItN f n s = some r) (Classical.propDecidable _) (fun h => some (Classical.choose h)) (fun _ => none)
theorem aIt_iff {σ ρ : Type} (f : σ → Option (σ ⊕ ρ)) (s : σ) (r : ρ) : aIt f s = some r ↔ ∃ n, aItN f n s = some r := by
  unfold aIt
  by_cases h : ∃ r : ρ, ∃ n : Nat, aItN f n s = some r
  · simp only [h, dite_true]
    obtain ⟨n, hn⟩ := Classical.choose_spec h
    constructor
    · intro e
      cases e
      exact ⟨n, hn⟩
    · rintro ⟨k, hk⟩
      rw [aItN_det f hn hk]
  · simp only [h, dite_false]
    constructor
    · intro e; cases e
    · rintro ⟨k, hk⟩
      exact absurd ⟨r, k, hk⟩ h
def aItR {σ ρ : Type} (f : σ → Option ρ) : Option (σ ⊕ ρ) → Option ρ
  | none => none
  | some (.inl s) => f s
  | some (.inr r) => some r
theorem aIt_eq {σ ρ : Type} (f : σ → Option (σ ⊕ ρ)) (s : σ) : aIt f s = aItR (aIt f) (f s) := by
  apply Option.ext
  intro r
  rw [aIt_iff]
  constructor
  · rintro ⟨n, hn⟩
    cases n with
    | zero => simp [aItN] at hn
    | succ n =>
      simp only [aItN] at hn
      cases hf : f s with
      | none => rw [hf] at hn; simp at hn
      | some x =>
        rw [hf] at hn
        cases x with
        | inl s' => exact (aIt_iff f s' r).mpr ⟨n, hn⟩
        | inr r' => exact hn
  · intro h
    cases hf : f s with
    | none => rw [hf] at h; simp [aItR] at h
    | some x =>
      rw [hf] at h
      cases x with
      | inl s' =>
        obtain ⟨n, hn⟩ := (aIt_iff f s' r).mp h
        exact ⟨n + 1, by simp only [aItN, hf]; exact hn⟩
      | inr r' => exact ⟨1, by simp only [aItN, hf]; exact h⟩
/-! big steps: the machine with fixed shapes (F) -/
abbrev aRv : Type := Option Value × aMem
abbrev aCl : Type := Nat → List Value → aMem → Option aRv
def asI : Option aRv → Option (Int32 × aMem)
  | some (some (.int x), m) => some (x, m)
  | _ => none
def asV : Option aRv → Option aMem
  | some (none, m) => some m
  | _ => none
def aRes (rk : Nat) (r : Option aRv) : Option (List Value × aMem) :=
  match rk with
  | 0 => (asV r).map fun m => ([], m)
  | _ => (asI r).map fun p => ([.int p.1], p.2)
def aF2 (cl : aCl) : aAct → Option ((aFr × aMem) ⊕ aRv)
  | .inl (fr, m, []) => some (.inl (fr, m))
  | .inl (_, _, _ :: _) => none
  | .inr (.inl (bs, fr, m)) => some (.inl (aPick bs fr, m))
  | .inr (.inr (.inl r)) => some (.inr r)
  | .inr (.inr (.inr (j, rk, as, fr, m))) => (aRes rk (cl j as m)).map fun q => .inl ((fr.1, fr.2.1, q.1 ++ fr.2.2), q.2)
def aF1 (SR : Nat → Nat → Nat) (sh : aSh) (cl : aCl) (tb : List aE) (s : aFr × aMem) : Option ((aFr × aMem) ⊕ aRv) :=
  match aSt1 true SR sh tb s.1 s.2 with
  | none => none
  | some (g, act) => bif g then aF2 cl act else none
noncomputable def aEvl (SR : Nat → Nat → Nat) (sh : aSh) (cl : aCl) (tb : List aE) (fr : aFr) (m : aMem) : Option aRv := aIt (aF1 SR sh cl tb) (fr, m)
abbrev aCds : Type := Nat → List Nat × List aE
noncomputable def aCall (SR : Nat → Nat → Nat) (sh : aSh) (cds : aCds) : Nat → aCl
  | 0 => fun _ _ _ => none
  | d + 1 => fun j as m => aEvl SR sh (aCall SR sh cds d) (cds j).2 (0, aKp (cds j).1 (lv_args 0 as), []) m
def grd {α : Type} (g : Bool) (x : Option α) : Option α := bif g then x else none
theorem aEvl_eq (SR : Nat → Nat → Nat) (sh : aSh) (cl : aCl) (tb : List aE) (fr : aFr) (m : aMem) : aEvl SR sh cl tb fr m = aItR (aIt (aF1 SR sh cl tb)) (aF1 SR sh cl tb (fr, m)) := aIt_eq _ _
/-! one instruction -/
section Ends
variable {SR : Nat → Nat → Nat} {sh : aSh} {cl : aCl} {tb : List aE} {pc : Nat} {ls : aLs} {st : List Value} {fr' : aFr} {m m' : aMem} {e : aE}
theorem aE1 {g : Bool} {act : aAct} (hf : aFetch tb pc = some e) (hs : aStep true SR sh e ls st m = some (g, act)) : aEvl SR sh cl tb (pc, ls, st) m = grd g (aItR (aIt (aF1 SR sh cl tb)) (aF2 cl act)) := by
  rw [aEvl_eq]
  simp only [aF1, aSt1, hf, hs]
  cases g <;> rfl
noncomputable def aSwE (SR : Nat → Nat → Nat) (sh : aSh) (cl : aCl) (tb : List aE) (m : aMem) : List (Bool × aFr) → aFr → Option aRv
  | [], f => aEvl SR sh cl tb f m
  | (c, g) :: r, f => bif c then aEvl SR sh cl tb g m else aSwE SR sh cl tb m r f
theorem aPick_E (bs : List (Bool × aFr)) (f : aFr) : aEvl SR sh cl tb (aPick bs f) m = aSwE SR sh cl tb m bs f := by
  induction bs with
  | nil => rfl
  | cons q r ih =>
    obtain ⟨c, g⟩ := q
    cases c with
    | true => rfl
    | false => exact ih
theorem g1g {g : Bool} (hf : aFetch tb pc = some e) (hs : aStep true SR sh e ls st m = some (g, .inl (fr', m', []))) : aEvl SR sh cl tb (pc, ls, st) m = grd g (aEvl SR sh cl tb fr' m') := aE1 hf hs
theorem b1 {p : Prop} [Decidable p] {f1 f2 : aFr} (hf : aFetch tb pc = some e) (hs : aStep true SR sh e ls st m = some (true, .inr (.inl ([(decide p, f1)], f2, m)))) : aEvl SR sh cl tb (pc, ls, st) m = if p then aEvl SR sh cl tb f1 m else aEvl SR sh cl tb f2 m := by
  rw [aE1 hf hs]
  by_cases hp : p <;> simp [hp, grd, aF2, aPick, aItR, aEvl]
theorem w1 {bs : List (Bool × aFr)} {f2 : aFr} (hf : aFetch tb pc = some e) (hs : aStep true SR sh e ls st m = some (true, .inr (.inl (bs, f2, m)))) : aEvl SR sh cl tb (pc, ls, st) m = aSwE SR sh cl tb m bs f2 := by
  rw [aE1 hf hs, ← aPick_E]
  rfl
theorem r1g {g : Bool} {v : Option Value} (hf : aFetch tb pc = some e) (hs : aStep true SR sh e ls st m = some (g, .inr (.inr (.inl (v, m))))) : aEvl SR sh cl tb (pc, ls, st) m = grd g (some (v, m)) := aE1 hf hs
theorem cIg {g : Bool} {j : Nat} {as : List Value} {pc' : Nat} {ls' : aLs} {st' : List Value} (hf : aFetch tb pc = some e) (hs : aStep true SR sh e ls st m = some (g, .inr (.inr (.inr (j, 1, as, (pc', ls', st'), m))))) : aEvl SR sh cl tb (pc, ls, st) m = grd g ((asI (cl j as m)).bind fun q => aEvl SR sh cl tb (pc', ls', .int q.1 :: st') q.2) := by
  rw [aE1 hf hs]
  congr 1
  simp only [aF2, aRes]
  cases asI (cl j as m) <;> rfl
theorem cVg {g : Bool} {j : Nat} {as : List Value} {pc' : Nat} {ls' : aLs} {st' : List Value} (hf : aFetch tb pc = some e) (hs : aStep true SR sh e ls st m = some (g, .inr (.inr (.inr (j, 0, as, (pc', ls', st'), m))))) : aEvl SR sh cl tb (pc, ls, st) m = grd g ((asV (cl j as m)).bind fun q => aEvl SR sh cl tb (pc', ls', st') q) := by
  rw [aE1 hf hs]
  congr 1
  simp only [aF2, aRes]
  cases asV (cl j as m) <;> rfl
end Ends
