/-! A machine on pictures: cells 0, 1, 2 .. in the order of their making; 999 the script; 1000 + q the static row q. What it answers, the machine does (part 06). -/
def lyL : List (Nat × Nat) := [(11, 12), (9, 7), (0, 12), (1, 8), (0, 50), (0, 20), (3, 3), (0, 32), (3, 3), (0, 32), (3, 3), (0, 32), (3, 3), (0, 32), (3, 3), (0, 32), (3, 3), (0, 32), (3, 3), (0, 32), (3, 3), (0, 32), (9, 7), (0, 12), (1, 8), (0, 50), (0, 20), (3, 3), (0, 32), (3, 3), (0, 32), (3, 3), (0, 32), (3, 3), (0, 32), (3, 3), (0, 32), (3, 3), (0, 32), (3, 3), (0, 32), (3, 3), (0, 32), (0, 6), (2, 4), (8, 9), (0, 50), (0, 50), (0, 50), (0, 10), (4, 6), (0, 576), (0, 156), (0, 12), (0, 64), (7, 10), (0, 84), (0, 12), (0, 64), (0, 64), (0, 64), (0, 64), (6, 4), (0, 12), (0, 36), (10, 5), (0, 40), (0, 12), (0, 256), (5, 3), (0, 40), (5, 3), (0, 40), (5, 3), (0, 40), (5, 3), (0, 40), (12, 33), (0, 366), (0, 366), (0, 6), (0, 7), (0, 90), (0, 90), (0, 90), (0, 60), (0, 60), (0, 12), (0, 144), (0, 12), (0, 4096), (0, 12), (0, 36), (0, 40), (0, 4), (0, 4), (0, 160), (0, 40)]
def kd (k : Nat) : Nat := (lyL.getD k (99, 0)).1
def ln (k : Nat) : Nat := (lyL.getD k (99, 0)).2
def nCell : Nat := 98
def sTl : List (List Int32) := [[97, 98, 99, 115, 112, 113, 114, 100, 119, 105], [12, 32, 14, 12, 8, 12], [1, 2, 5, 5, 6, 6, 7, 7, 8, 8, 9, 9, 10, 10], [2, 1, 6, 8, 5, 8, 10, 9, 5, 6, 10, 7, 9, 7], [0, 0, 1, 1, 1, 0], [5, 6, 8, 7, 9, 10], [10, 11, 12, 13, 0, 20, 0, 0, 30, 0, 0, 31, 0, 0, 40, 0, 0, 51, 0, 50, 60, 0, 61, 0]]
def sT (q j : Nat) : Int32 := (sTl.getD q []).getD j 0
def sN (q : Nat) : Nat := (sTl.getD q []).length
abbrev AM : Type := Nat → Nat → Value
abbrev AL : Type := List (Option Value)
abbrev AX : Type := Nat × (Nat → Int32)
def aset (μ : AM) (k j : Nat) (v : Value) : AM := fun k' j' => bif Nat.beq k' k && Nat.beq j' j then v else μ k' j'
def arow (μ : AM) (k : Nat) (r : Nat → Value) : AM := fun k' j' => bif Nat.beq k' k then r j' else μ k' j'
def toI (v : Value) : Int32 := match v with | .int x => x | _ => 0
def inb (i : Int32) (n : Nat) : Bool := !(decide (i < 0)) && Nat.blt i.toNatClampNeg n
def lget (ls : AL) (i : Nat) : Option Value := ls.getD i none
/-- no long begins at i -/
def lcl (ls : AL) (i : Nat) : Bool := match ls.getD i none with | some (.long _) => false | some (.double _) => false | _ => true
def lok (ls : AL) (i : Nat) : Bool := match i with | 0 => true | k + 1 => lcl ls k
def lset (ls : AL) (i : Nat) (v : Value) : Option AL := bif Nat.blt i ls.length && lok ls i then some (ls.set i (some v)) else none
def lset2 (ls : AL) (i : Nat) (v : Value) : Option AL := bif Nat.blt (i + 1) ls.length && lok ls i then some ((ls.set i (some v)).set (i + 1) none) else none
/-- a row of ints: its length -/
def ial (X : AX) (n k : Nat) : Option Nat := bif Nat.blt k 999 then (bif Nat.blt k n && Nat.beq (kd k) 0 then some (ln k) else none) else bif Nat.beq k 999 then some X.1 else bif Nat.blt k 1007 then some (sN (k - 1000)) else none
def ird (X : AX) (μ : AM) (k j : Nat) : Int32 := bif Nat.blt k 999 then toI (μ k j) else bif Nat.beq k 999 then X.2 j else sT (k - 1000) j
def fok (ty : FieldType) (v : Value) : Bool := match ty, v with
  | .int, .int _ => true
  | .boolean, .int x => decide (x = 0) || decide (x = 1)
  | .object _, .ref _ => true
  | .array _, .ref _ => true
  | _, _ => false
def tgt (pc : Nat) (off : Int) : Nat := ((pc : Int) + off).toNat
/-- is the jump's aim a number -/
def tok (pc : Nat) (off : Int) : Bool := decide (0 ≤ (pc : Int) + off)
def cmp0 (c : Jvm.ClassFile.Cond) (x y : Int32) : Bool := match c with
  | .eq => decide (x = y) | .ne => decide (¬ x = y) | .lt => decide (x < y) | .ge => decide (y ≤ x) | .gt => decide (y < x) | .le => decide (x ≤ y)
abbrev AR : Type := Nat × AL × List Value × Nat × AM
def aI (pc : Nat) (ls : AL) (n : Nat) (μ : AM) (x : Int32) (r : List Value) : Option AR := some (pc, ls, .int x :: r, n, μ)
def aLd (i pc : Nat) (ls : AL) (st : List Value) (n : Nat) (μ : AM) : Option AR := match lget ls i with
  | some (.int x) => some (pc, ls, .int x :: st, n, μ)
  | _ => none
def aLda (i pc : Nat) (ls : AL) (st : List Value) (n : Nat) (μ : AM) : Option AR := match lget ls i with
  | some (.ref x) => some (pc, ls, .ref x :: st, n, μ)
  | _ => none
def aLdl (i pc : Nat) (ls : AL) (st : List Value) (n : Nat) (μ : AM) : Option AR := match lget ls i with
  | some (.long x) => some (pc, ls, .long x :: st, n, μ)
  | _ => none
def aSt (i pc : Nat) (ls : AL) (st : List Value) (n : Nat) (μ : AM) : Option AR := match st with
  | .int x :: r => (match lset ls i (.int x) with | some ls' => some (pc, ls', r, n, μ) | none => none)
  | _ => none
def aSta (i pc : Nat) (ls : AL) (st : List Value) (n : Nat) (μ : AM) : Option AR := match st with
  | .ref x :: r => (match lset ls i (.ref x) with | some ls' => some (pc, ls', r, n, μ) | none => none)
  | _ => none
def aStl (i pc : Nat) (ls : AL) (st : List Value) (n : Nat) (μ : AM) : Option AR := match st with
  | .long x :: r => (match lset2 ls i (.long x) with | some ls' => some (pc, ls', r, n, μ) | none => none)
  | _ => none
def aB (f : Int32 → Int32 → Int32) (pc : Nat) (ls : AL) (st : List Value) (n : Nat) (μ : AM) : Option AR := match st with
  | .int y :: .int x :: r => some (pc, ls, .int (f x y) :: r, n, μ)
  | _ => none
def aU (f : Int32 → Int32) (pc : Nat) (ls : AL) (st : List Value) (n : Nat) (μ : AM) : Option AR := match st with
  | .int x :: r => some (pc, ls, .int (f x) :: r, n, μ)
  | _ => none
def aBl (f : Int64 → Int64 → Int64) (pc : Nat) (ls : AL) (st : List Value) (n : Nat) (μ : AM) : Option AR := match st with
  | .long y :: .long x :: r => some (pc, ls, .long (f x y) :: r, n, μ)
  | _ => none
def aSl (f : Int64 → Int32 → Int64) (pc : Nat) (ls : AL) (st : List Value) (n : Nat) (μ : AM) : Option AR := match st with
  | .int y :: .long x :: r => some (pc, ls, .long (f x y) :: r, n, μ)
  | _ => none
/-- one instruction that is neither a call nor an end -/
def astep (X : AX) (ins : Instr) (len a b pc : Nat) (ls : AL) (st : List Value) (n : Nat) (μ : AM) : Option AR := match ins with
  | .iconst k => some (pc + 1, ls, .int (Int32.ofInt k) :: st, n, μ)
  | .bipush k => some (pc + 2, ls, .int (Int8.ofInt k).toInt32 :: st, n, μ)
  | .sipush k => some (pc + 3, ls, .int (Int16.ofInt k).toInt32 :: st, n, μ)
  | .ldc _ => some (pc + 2, ls, .int (kI a) :: st, n, μ)
  | .ldc_w _ => some (pc + 3, ls, .int (kI a) :: st, n, μ)
  | .ldc2_w _ => some (pc + 3, ls, .long (kLo a) :: st, n, μ)
  | .lconst k => some (pc + 1, ls, .long (Int64.ofNat k) :: st, n, μ)
  | .iload_n k => aLd k (pc + 1) ls st n μ
  | .iload k => aLd k (pc + 2) ls st n μ
  | .aload_n k => aLda k (pc + 1) ls st n μ
  | .aload k => aLda k (pc + 2) ls st n μ
  | .lload_n k => aLdl k (pc + 1) ls st n μ
  | .istore_n k => aSt k (pc + 1) ls st n μ
  | .istore k => aSt k (pc + 2) ls st n μ
  | .astore_n k => aSta k (pc + 1) ls st n μ
  | .astore k => aSta k (pc + 2) ls st n μ
  | .lstore_n k => aStl k (pc + 1) ls st n μ
  | .iinc k d => (match lget ls k with
    | some (.int x) => (match lset ls k (.int (x + Int32.ofInt d)) with | some ls' => some (pc + 3, ls', st, n, μ) | none => none)
    | _ => none)
  | .dup => (match st with
    | .int x :: r => some (pc + 1, ls, .int x :: .int x :: r, n, μ)
    | .ref x :: r => some (pc + 1, ls, .ref x :: .ref x :: r, n, μ)
    | _ => none)
  | .dup2 => (match st with
    | .int x :: .ref y :: r => some (pc + 1, ls, .int x :: .ref y :: .int x :: .ref y :: r, n, μ)
    | _ => none)
  | .iadd => aB (fun x y => x + y) (pc + 1) ls st n μ
  | .isub => aB (fun x y => x - y) (pc + 1) ls st n μ
  | .imul => aB (fun x y => x * y) (pc + 1) ls st n μ
  | .iand => aB (fun x y => x &&& y) (pc + 1) ls st n μ
  | .ior => aB (fun x y => x ||| y) (pc + 1) ls st n μ
  | .ixor => aB (fun x y => x ^^^ y) (pc + 1) ls st n μ
  | .ishl => aB (fun x y => x <<< (y &&& 31)) (pc + 1) ls st n μ
  | .ishr => aB (fun x y => x >>> (y &&& 31)) (pc + 1) ls st n μ
  | .iushr => aB (fun x y => (x.toUInt32 >>> (y.toUInt32 &&& Int32.toUInt32 31)).toInt32) (pc + 1) ls st n μ
  | .idiv => (match st with
    | .int y :: .int x :: r => bif decide (y = 0) then none else some (pc + 1, ls, .int (x / y) :: r, n, μ)
    | _ => none)
  | .irem => (match st with
    | .int y :: .int x :: r => bif decide (y = 0) then none else some (pc + 1, ls, .int (x - x / y * y) :: r, n, μ)
    | _ => none)
  | .ineg => aU (fun x => -x) (pc + 1) ls st n μ
  | .i2b => aU (fun x => x.toInt8.toInt32) (pc + 1) ls st n μ
  | .i2s => aU (fun x => x.toInt16.toInt32) (pc + 1) ls st n μ
  | .i2l => (match st with
    | .int x :: r => some (pc + 1, ls, .long x.toInt64 :: r, n, μ)
    | _ => none)
  | .l2i => (match st with
    | .long x :: r => some (pc + 1, ls, .int x.toInt32 :: r, n, μ)
    | _ => none)
  | .ladd => aBl (fun x y => x + y) (pc + 1) ls st n μ
  | .land => aBl (fun x y => x &&& y) (pc + 1) ls st n μ
  | .lor => aBl (fun x y => x ||| y) (pc + 1) ls st n μ
  | .lshl => aSl (fun x y => x <<< (y.toInt64 &&& 63)) (pc + 1) ls st n μ
  | .lshr => aSl (fun x y => x >>> (y.toInt64 &&& 63)) (pc + 1) ls st n μ
  | .lushr => aSl (fun x y => (x.toUInt64 >>> (y.toInt64.toUInt64 &&& Int64.toUInt64 63)).toInt64) (pc + 1) ls st n μ
  | .lcmp => (match st with
    | .long y :: .long x :: r => some (pc + 1, ls, .int (lg_cmp x y) :: r, n, μ)
    | _ => none)
  | .goto off => bif tok pc off then some (tgt pc off, ls, st, n, μ) else none
  | .ifCond c off => (match st with
    | .int x :: r => bif tok pc off then (bif cmp0 c x 0 then some (tgt pc off, ls, r, n, μ) else some (pc + 3, ls, r, n, μ)) else none
    | _ => none)
  | .if_icmp c off => (match st with
    | .int y :: .int x :: r => bif tok pc off then (bif cmp0 c x y then some (tgt pc off, ls, r, n, μ) else some (pc + 3, ls, r, n, μ)) else none
    | _ => none)
  | .tableswitch d lo hi offs => (match st with
    | .int x :: r => bif decide (x.toInt < lo) || decide (hi < x.toInt) then (bif tok pc d then some (tgt pc d, ls, r, n, μ) else none) else (match offs[(x.toInt - lo).toNat]? with
      | some off => bif tok pc off then some (tgt pc off, ls, r, n, μ) else none
      | none => none)
    | _ => none)
  | .lookupswitch d ps => (match st with
    | .int x :: r => bif (ps.toList.zip (ps.toList.drop 1)).all (fun (a, next) => a.1 < next.1) && tok pc (Op.lookupswitch.offset ps.toList d x.toInt) then some (tgt pc (Op.lookupswitch.offset ps.toList d x.toInt), ls, r, n, μ) else none
    | _ => none)
  | .getstatic _ => some (pc + 3, ls, .ref (1000 + a) :: st, n, μ)
  | .getfield _ => (match st with
    | .ref k :: r => bif Nat.blt k 999 && Nat.blt k n && Nat.beq (kd k) (a + 3) && Nat.blt b (kN a) then some (pc + 3, ls, μ k b :: r, n, μ) else none
    | _ => none)
  | .putfield _ => (match st with
    | v :: .ref k :: r => bif Nat.blt k 999 && Nat.blt k n && Nat.beq (kd k) (a + 3) && Nat.blt b (kN a) && fok (kY a b) v then some (pc + 3, ls, r, n, aset μ k b v) else none
    | _ => none)
  | .arraylength => (match st with
    | .ref k :: r => (match ial X n k with | some L => some (pc + 1, ls, .int (Int32.ofNat L) :: r, n, μ) | none => none)
    | _ => none)
  | .iaload => (match st with
    | .int i :: .ref k :: r => (match ial X n k with | some L => bif inb i L then some (pc + 1, ls, .int (ird X μ k i.toNatClampNeg) :: r, n, μ) else none | none => none)
    | _ => none)
  | .iastore => (match st with
    | .int x :: .int i :: .ref k :: r => bif Nat.blt k 999 && Nat.blt k n && Nat.beq (kd k) 0 && inb i (ln k) then some (pc + 1, ls, r, n, aset μ k i.toNatClampNeg (.int x)) else none
    | _ => none)
  | .aaload => (match st with
    | .int i :: .ref k :: r => bif Nat.blt k 999 && Nat.blt k n && (Nat.beq (kd k) 1 || Nat.beq (kd k) 2) && inb i (ln k) then some (pc + 1, ls, μ k i.toNatClampNeg :: r, n, μ) else none
    | _ => none)
  | .aastore => (match st with
    | .ref h :: .int i :: .ref k :: r => bif Nat.blt k 999 && Nat.blt k n && (Nat.beq (kd k) 1 && Nat.beq (kd h) 3 || Nat.beq (kd k) 2 && Nat.beq (kd h) 5) && inb i (ln k) && Nat.blt h 999 && Nat.blt h n then some (pc + 1, ls, r, n, aset μ k i.toNatClampNeg (.ref h)) else none
    | _ => none)
  | .new _ => bif Nat.blt n 999 && Nat.beq (kd n) (a + 3) && Nat.beq (ln n) (kN a) && Nat.blt a 10 then some (pc + 3, ls, .ref n :: st, n + 1, arow μ n (fun j => defaultValue (kY a j))) else none
  | .newarray t => (match st with
    | .int m :: r => bif Nat.blt n 999 && decide (t = .int) && Nat.beq (kd n) 0 && !(decide (m < 0)) && Nat.beq m.toNatClampNeg (ln n) then some (pc + 2, ls, .ref n :: r, n + 1, arow μ n (fun _ => .int 0)) else none
    | _ => none)
  | .anewarray _ => (match st with
    | .int m :: r => bif Nat.blt n 999 && (Nat.beq a 0 && Nat.beq (kd n) 1 || Nat.beq a 2 && Nat.beq (kd n) 2) && !(decide (m < 0)) && Nat.beq m.toNatClampNeg (ln n) then some (pc + 3, ls, .ref n :: r, n + 1, arow μ n (fun _ => .null)) else none
    | _ => none)
  | _ => none
/-- the locals with which a method begins -/
def aent : List Value → AL
  | [] => []
  | .long x :: r => some (.long x) :: none :: aent r
  | .double x :: r => some (.double x) :: none :: aent r
  | v :: r => some v :: aent r
def apad (as : List Value) (m : Nat) : AL := aent as ++ List.replicate (m - (aent as).length) none
/-- the arguments off the stack, the last one first -/
def atake : Nat → List Value → List Value → Option (List Value × List Value)
  | 0, st, acc => some (acc, st)
  | _ + 1, [], _ => none
  | k + 1, v :: st, acc => atake k st (v :: acc)
def acpy (μ : AM) (X : AX) (sk sp dk dp m : Nat) : AM := fun k j => bif Nat.beq k dk && Nat.ble dp j && Nat.blt j (dp + m) then .int (ird X μ sk (sp + (j - dp))) else μ k j
/-- what may lie below a call's arguments -/
def arest (st : List Value) : Bool := Nat.ble (st.map fun v => v.category).sum 8
/-- the kind of an end: what it gives -/
def aend (ins : Instr) (r : Option FieldType) (st : List Value) : Option (Option Value) := match ins with
  | .return_ => (match st, r with | [], none => some none | _, _ => none)
  | .ireturn => (match st, r with | [.int v], some .int => some (some (.int v)) | [.int v], some .boolean => bif decide (v = 0) || decide (v = 1) then some (some (.int v)) else none | _, _ => none)
  | .lreturn => (match st, r with | [.long v], some .long => some (some (.long v)) | _, _ => none)
  | _ => none
/-- which call: 1 an object's, 2 a static one, 3 a constructor's; 0 none -/
def acall (ins : Instr) : Nat := match ins with | .invokevirtual _ => 1 | .invokestatic _ => 2 | .invokespecial _ => 3 | _ => 0
def isend (ins : Instr) : Bool := match ins with | .return_ => true | .ireturn => true | .lreturn => true | _ => false
/-- the receiver is of the method's class -/
def arecv (kind n j : Nat) (as : List Value) : Bool := bif Nat.beq kind 2 then mS j else match as with
  | .ref k :: _ => !(mS j) && Nat.blt k 999 && Nat.blt k n && Nat.beq (kd k) (mO j + 3) && Nat.blt (mO j) 10
  | _ => false
def ax (X : AX) : Nat → Nat → Nat → Nat → AL → List Value → Nat → AM → Option (Option Value × Nat × AM)
  | 0, _, _, _, _, _, _, _ => none
  | f + 1, d, i, pc, ls, st, n, μ => match it i pc with
    | none => none
    | some (ins, len, a, b) => bif isend ins then (match aend ins (mR i) st with | some v => some (v, n, μ) | none => none)
      else bif Nat.beq (acall ins) 0 then (match astep X ins len a b pc ls st n μ with
        | some (pc', ls', st', n', μ') => ax X f d i pc' ls' st' n' μ'
        | none => none)
      else bif Nat.beq a 1000 then (match st with
        | .ref _ :: r => bif Nat.beq (acall ins) 3 && Nat.blt 0 d && arest r then ax X f d i (pc + 3) ls r n μ else none
        | _ => none)
      else bif Nat.beq a 1001 then (match st with
        | .int m :: .int dp :: .ref dk :: .int sp :: .ref sk :: r => (match ial X n sk with
          | some L => bif Nat.beq (acall ins) 2 && Nat.blt 0 d && arest r && Nat.blt dk 999 && Nat.blt sk 999 && Nat.blt dk n && Nat.beq (kd dk) 0 && !(decide (m < 0)) && !(decide (sp < 0)) && !(decide (dp < 0)) && Nat.ble (sp.toNatClampNeg + m.toNatClampNeg) L && Nat.ble (dp.toNatClampNeg + m.toNatClampNeg) (ln dk)
              then ax X f d i (pc + 3) ls r n (acpy μ X sk sp.toNatClampNeg dk dp.toNatClampNeg m.toNatClampNeg) else none
          | none => none)
        | _ => none)
      else bif Nat.beq a 1002 then (match st with
        | .int y :: .int x :: r => bif Nat.beq (acall ins) 2 && Nat.blt 0 d && arest r then ax X f d i (pc + 3) ls (.int (bif decide (x < y) then y else x) :: r) n μ else none
        | _ => none)
      else bif Nat.beq a 1003 then (match st with
        | .int y :: .int x :: r => bif Nat.beq (acall ins) 2 && Nat.blt 0 d && arest r then ax X f d i (pc + 3) ls (.int (bif decide (y < x) then y else x) :: r) n μ else none
        | _ => none)
      else match d with
        | 0 => none
        | d' + 1 => (match atake (bif Nat.beq (acall ins) 2 then mP a else mP a + 1) st [] with
          | none => none
          | some (as, r) => bif arest r && arecv (acall ins) n a as && Nat.ble (aent as).length (mL a) then (match ax X f d' a 0 (apad as (mL a)) [] n μ with
            | none => none
            | some (v, n', μ') => ax X f d i (pc + 3) ls (v.toList ++ r) n' μ') else none)
