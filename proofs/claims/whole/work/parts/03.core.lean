/-! ===== a plain machine over numbered cells: ints, longs, references, how many cells there are, how many throws there were ===== -/
abbrev zH : Type := (Nat → Nat → Int32) × (Nat → Nat → Int64) × (Nat → Nat → Option Nat) × Nat × Nat
abbrev zO : Type := Option Value × zH
def kI : Int → Int32
  | .ofNat n => nI n
  | .negSucc n => -(nI (n + 1))
def kL : Int → Int64
  | .ofNat n => lN n
  | .negSucc n => -(lN (n + 1))
def zset {α : Type} (r : Nat → α) (k : Nat) (v : α) : Nat → α := fun j => if j = k then v else r j
def zrow {α : Type} (I : Nat → Nat → α) (a : Nat) (r : Nat → α) : Nat → Nat → α := fun b => if b = a then r else I b
def zup {α : Type} (I : Nat → Nat → α) (a k : Nat) (v : α) : Nat → Nat → α := zrow I a (zset (I a) k v)
def nth {α : Type} : List α → Nat → Option α
  | [], _ => none
  | a :: _, 0 => some a
  | _ :: l, n + 1 => nth l n
def inb (i : Int32) (n : Nat) : Bool := !(decide (i < 0)) && decide (i.toNatClampNeg < n)
def zb (v : Int32) : Bool := decide (v = 0) || decide (v = 1)
def zcat : List Value → Nat
  | [] => 0
  | v :: l => v.category + zcat l
def zmax (x y : Int32) : Int32 := if x < y then y else x
def zmin (x y : Int32) : Int32 := if y < x then y else x
def bI (c : Option zO) (f : Int32 → zH → Option zO) : Option zO := match c with
  | some (some (.int v), h) => f v h
  | _ => none
def bL (c : Option zO) (f : Int64 → zH → Option zO) : Option zO := match c with
  | some (some (.long v), h) => f v h
  | _ => none
def bV (c : Option zO) (f : zH → Option zO) : Option zO := match c with
  | some (none, h) => f h
  | _ => none
def bT (c : Option zO) (t : zH → Option zO) (f : Value → zH → Option zO) : Option zO := match c with
  | some (some (.retAddr _), h) => t h
  | some (some (.int v), h) => f (.int v) h
  | some (some (.long v), h) => f (.long v) h
  | _ => none
def lkill (lv : List Value) : Nat → List Value
  | 0 => lv
  | k + 1 => match lv.getD k .null with
    | .long _ => lv.set k .null
    | .double _ => lv.set k .null
    | _ => lv
def lset (lv : List Value) (k : Nat) (v : Value) : List Value := (lkill lv k).set k v
def lset2 (lv : List Value) (k : Nat) (v : Value) : List Value := ((lkill lv k).set k v).set (k + 1) .null
def zsw (f : Nat → Option zO) (x : Int32) : Int → List Int → Nat → Option zO
  | _, [], d => f d
  | lo, t :: ts, d => if x = kI lo then f t.toNat else zsw f x (lo + 1) ts d
def zlk (f : Nat → Option zO) (x : Int32) : List (Int × Int) → Nat → Option zO
  | [], d => f d
  | (m, t) :: r, d => if x = kI m then f t.toNat else zlk f x r d
def zslots : List Value → List Value
  | [] => []
  | .long v :: r => .long v :: .null :: zslots r
  | v :: r => v :: zslots r
def zent (maxL : Nat) (args : List Value) : List Value := zslots args ++ List.replicate (maxL - (zslots args).length) .null
/-- no double among these values -/
def znd : List Value → Bool
  | [] => true
  | .double _ :: _ => false
  | _ :: r => znd r
/-! the plan of the cells -/
def zshL : List Nat := [0, 19, 17, 4, 18, 2, 11, 1, 1, 13, 1, 1, 1, 1, 16, 1, 16, 1, 16, 1, 12, 1, 1, 10, 1, 1, 15, 1, 1, 2, 14, 1, 1, 14, 1, 1, 20, 1, 1, 1, 3, 2, 1, 1, 3, 3, 1, 1, 2, 1, 1, 1, 1, 1, 1, 1, 1, 1, 1, 1, 5, 1, 5, 1, 2]
def zlnL : List Nat := [0, 0, 0, 80, 0, 8, 0, 16, 8, 0, 10, 10, 10, 10, 0, 27, 0, 27, 0, 27, 0, 324, 54, 0, 12, 12, 0, 10, 10, 100, 0, 40, 40, 0, 40, 40, 0, 26, 17, 9, 80, 16, 9, 8, 40, 40, 7, 10, 10, 10, 312, 26, 26, 240, 2600, 12, 12, 10, 10, 3, 10, 52, 2, 2, 1]
def shp (a : Nat) : Nat := (nth zshL a).getD 0
def sln (a : Nat) : Nat := (nth zlnL a).getD 0
def aok (t a : Nat) (i : Int32) : Bool := Nat.beq (shp a) t && inb i (sln a)
def fok (c a : Nat) : Bool := Nat.beq (shp a) (10 + c)
/-- the cell a is made already -/
def zn (n a : Nat) : Bool := Nat.ble 65 n || Nat.blt a n
/-- the receiver's class, one more (0: none is asked for) -/
def zrc (c : Nat) (args : List Value) (n : Nat) : Bool := match c with
  | 0 => true
  | c + 1 => match args with
    | .ref a :: _ => fok c a && zn n a
    | _ => false
def aty : ArrayType → Nat
  | .int => 1
  | .long => 2
  | .byte => 3
  | .char => 4
  | .boolean => 5
  | _ => 0
/-- may n ints be copied from a0, sp on, to a, dp on -/
def zcp (a0 : Nat) (sp : Int32) (a : Nat) (dp n : Int32) : Bool := Nat.beq (shp a0) 1 && Nat.beq (shp a) 1 && !(decide (sp < 0)) && !(decide (dp < 0)) && !(decide (n < 0)) && decide (sp.toNatClampNeg + n.toNatClampNeg ≤ sln a0) && decide (dp.toNatClampNeg + n.toNatClampNeg ≤ sln a)
/-- one step: g calls a method, f goes on -/
def stp (g : Bool → Nat → List Value → zH → Option zO) (f : Nat → List Value → List Value → zH → Option zO) (op : Instr) (i : Nat) (lv st : List Value) (h : zH) : Option zO :=
  match op with
  | .sipush v => f (i + 1) lv (.int (kI v) :: st) h
  | .goto_w v => f (i + 1) lv (.long (kL v) :: st) h
  | .iload k => match lv.getD k .null with
    | .int x => f (i + 1) lv (.int x :: st) h
    | _ => none
  | .lload k => match lv.getD k .null with
    | .long x => f (i + 1) lv (.long x :: st) h
    | _ => none
  | .aload k => match lv.getD k .null with
    | .ref x => f (i + 1) lv (.ref x :: st) h
    | _ => none
  | .istore k => match st with
    | .int x :: r => f (i + 1) (lset lv k (.int x)) r h
    | _ => none
  | .lstore k => match st with
    | .long x :: r => f (i + 1) (lset2 lv k (.long x)) r h
    | _ => none
  | .astore k => match st with
    | .ref x :: r => f (i + 1) (lset lv k (.ref x)) r h
    | _ => none
  | .iinc k c => match lv.getD k .null with
    | .int x => f (i + 1) (lset lv k (.int (x + kI c))) st h
    | _ => none
  | .iadd => match st with
    | .int y :: .int x :: r => f (i + 1) lv (.int (x + y) :: r) h
    | _ => none
  | .isub => match st with
    | .int y :: .int x :: r => f (i + 1) lv (.int (x - y) :: r) h
    | _ => none
  | .imul => match st with
    | .int y :: .int x :: r => f (i + 1) lv (.int (x * y) :: r) h
    | _ => none
  | .idiv => match st with
    | .int y :: .int x :: r => if y = 0 then none else f (i + 1) lv (.int (x / y) :: r) h
    | _ => none
  | .irem => match st with
    | .int y :: .int x :: r => if y = 0 then none else f (i + 1) lv (.int (x - x / y * y) :: r) h
    | _ => none
  | .iand => match st with
    | .int y :: .int x :: r => f (i + 1) lv (.int (x &&& y) :: r) h
    | _ => none
  | .ior => match st with
    | .int y :: .int x :: r => f (i + 1) lv (.int (x ||| y) :: r) h
    | _ => none
  | .ixor => match st with
    | .int y :: .int x :: r => f (i + 1) lv (.int (x ^^^ y) :: r) h
    | _ => none
  | .ishl => match st with
    | .int y :: .int x :: r => f (i + 1) lv (.int (x <<< (y &&& 31)) :: r) h
    | _ => none
  | .ishr => match st with
    | .int y :: .int x :: r => f (i + 1) lv (.int (x >>> (y &&& 31)) :: r) h
    | _ => none
  | .iushr => match st with
    | .int y :: .int x :: r => f (i + 1) lv (.int (x.toUInt32 >>> (y.toUInt32 &&& Int32.toUInt32 31)).toInt32 :: r) h
    | _ => none
  | .ineg => match st with
    | .int x :: r => f (i + 1) lv (.int (-x) :: r) h
    | _ => none
  | .ladd => match st with
    | .long y :: .long x :: r => f (i + 1) lv (.long (x + y) :: r) h
    | _ => none
  | .lmul => match st with
    | .long y :: .long x :: r => f (i + 1) lv (.long (x * y) :: r) h
    | _ => none
  | .ldiv => match st with
    | .long y :: .long x :: r => if y = 0 then none else f (i + 1) lv (.long (x / y) :: r) h
    | _ => none
  | .lrem => match st with
    | .long y :: .long x :: r => if y = 0 then none else f (i + 1) lv (.long (x - x / y * y) :: r) h
    | _ => none
  | .lcmp => match st with
    | .long y :: .long x :: r => f (i + 1) lv (.int (lg_cmp x y) :: r) h
    | _ => none
  | .i2l => match st with
    | .int x :: r => f (i + 1) lv (.long x.toInt64 :: r) h
    | _ => none
  | .l2i => match st with
    | .long x :: r => f (i + 1) lv (.int x.toInt32 :: r) h
    | _ => none
  | .i2b => match st with
    | .int x :: r => f (i + 1) lv (.int x.toInt8.toInt32 :: r) h
    | _ => none
  | .i2s => match st with
    | .int x :: r => f (i + 1) lv (.int x.toInt16.toInt32 :: r) h
    | _ => none
  | .i2c => match st with
    | .int x :: r => f (i + 1) lv (.int (x.toUInt32 % 65536).toInt32 :: r) h
    | _ => none
  | .dup => match st with
    | .int x :: r => f (i + 1) lv (.int x :: .int x :: r) h
    | .ref x :: r => f (i + 1) lv (.ref x :: .ref x :: r) h
    | _ => none
  | .dup2 => match st with
    | .int y :: .ref x :: r => f (i + 1) lv (.int y :: .ref x :: .int y :: .ref x :: r) h
    | _ => none
  | .dup_x1 => match st with
    | .int y :: .ref x :: r => f (i + 1) lv (.int y :: .ref x :: .int y :: r) h
    | _ => none
  | .pop => match st with
    | .int _ :: r => f (i + 1) lv r h
    | _ => none
  | .getfield q => match st with
    | .ref a :: r => match fok (q / 64) a && zn h.2.2.2.1 a with
      | true => f (i + 1) lv (.int (h.1 a (q % 64)) :: r) h
      | false => none
    | _ => none
  | .getstatic q => match st with
    | .ref a :: r => match fok (q / 64) a && zn h.2.2.2.1 a with
      | true => match h.2.2.1 a (q % 64) with
        | some b => f (i + 1) lv (.ref b :: r) h
        | none => f (i + 1) lv (.null :: r) h
      | false => none
    | _ => none
  | .putfield q => match st with
    | .int v :: .ref a :: r => match fok (q / 64) a && zn h.2.2.2.1 a with
      | true => f (i + 1) lv r (zup h.1 a (q % 64) v, h.2)
      | false => none
    | _ => none
  | .fstore q => match st with
    | .int v :: .ref a :: r => match fok (q / 64) a && zn h.2.2.2.1 a with
      | true => if zb v = true then f (i + 1) lv r (zup h.1 a (q % 64) v, h.2) else none
      | false => none
    | _ => none
  | .putstatic q => match st with
    | .ref v :: .ref a :: r => match fok (q / 64) a && zn h.2.2.2.1 a with
      | true => f (i + 1) lv r (h.1, h.2.1, zup h.2.2.1 a (q % 64) (some v), h.2.2.2)
      | false => none
    | _ => none
  | .iaload => match st with
    | .int j :: .ref a :: r => match zn h.2.2.2.1 a with
      | true => if aok 1 a j = true then f (i + 1) lv (.int (h.1 a j.toNatClampNeg) :: r) h else none
      | false => none
    | _ => none
  | .baload => match st with
    | .int j :: .ref a :: r => match zn h.2.2.2.1 a with
      | true => if aok 3 a j = true then f (i + 1) lv (.int (h.1 a j.toNatClampNeg) :: r) h else none
      | false => none
    | _ => none
  | .caload => match st with
    | .int j :: .ref a :: r => match zn h.2.2.2.1 a with
      | true => if aok 4 a j = true then f (i + 1) lv (.int (h.1 a j.toNatClampNeg) :: r) h else none
      | false => none
    | _ => none
  | .saload => match st with
    | .int j :: .ref a :: r => match zn h.2.2.2.1 a with
      | true => if aok 5 a j = true then f (i + 1) lv (.int (h.1 a j.toNatClampNeg) :: r) h else none
      | false => none
    | _ => none
  | .laload => match st with
    | .int j :: .ref a :: r => match zn h.2.2.2.1 a with
      | true => if aok 2 a j = true then f (i + 1) lv (.long (h.2.1 a j.toNatClampNeg) :: r) h else none
      | false => none
    | _ => none
  | .iastore => match st with
    | .int v :: .int j :: .ref a :: r => match zn h.2.2.2.1 a with
      | true => if aok 1 a j = true then f (i + 1) lv r (zup h.1 a j.toNatClampNeg v, h.2) else none
      | false => none
    | _ => none
  | .bastore => match st with
    | .int v :: .int j :: .ref a :: r => match zn h.2.2.2.1 a with
      | true => if aok 3 a j = true then f (i + 1) lv r (zup h.1 a j.toNatClampNeg v.toInt8.toInt32, h.2) else none
      | false => none
    | _ => none
  | .castore => match st with
    | .int v :: .int j :: .ref a :: r => match zn h.2.2.2.1 a with
      | true => if aok 4 a j = true then f (i + 1) lv r (zup h.1 a j.toNatClampNeg (v.toUInt32 % 65536).toInt32, h.2) else none
      | false => none
    | _ => none
  | .sastore => match st with
    | .int v :: .int j :: .ref a :: r => match zn h.2.2.2.1 a with
      | true => if zb v = true then (if aok 5 a j = true then f (i + 1) lv r (zup h.1 a j.toNatClampNeg v, h.2) else none) else none
      | false => none
    | _ => none
  | .lastore => match st with
    | .long v :: .int j :: .ref a :: r => match zn h.2.2.2.1 a with
      | true => if aok 2 a j = true then f (i + 1) lv r (h.1, zup h.2.1 a j.toNatClampNeg v, h.2.2) else none
      | false => none
    | _ => none
  | .arraylength => match st with
    | .ref a :: r => match zn h.2.2.2.1 a with
      | true => if (Nat.blt 0 (shp a) && Nat.blt (shp a) 6) = true then f (i + 1) lv (.int (nI (sln a)) :: r) h else none
      | false => none
    | _ => none
  | .f2i => match st with
    | .ref 999 :: r => f (i + 1) lv (.int (h.1 998 0) :: r) h
    | _ => none
  | .faload => match st with
    | .int j :: .ref 999 :: r => if inb j (h.1 998 0).toNatClampNeg = true then f (i + 1) lv (.int (h.1 999 j.toNatClampNeg) :: r) h else none
    | _ => none
  | .if_icmp .eq t => match st with
    | .int y :: .int x :: r => if x = y then f t.toNat lv r h else f (i + 1) lv r h
    | _ => none
  | .if_icmp .ne t => match st with
    | .int y :: .int x :: r => if x = y then f (i + 1) lv r h else f t.toNat lv r h
    | _ => none
  | .if_icmp .lt t => match st with
    | .int y :: .int x :: r => if x < y then f t.toNat lv r h else f (i + 1) lv r h
    | _ => none
  | .if_icmp .ge t => match st with
    | .int y :: .int x :: r => if y ≤ x then f t.toNat lv r h else f (i + 1) lv r h
    | _ => none
  | .if_icmp .gt t => match st with
    | .int y :: .int x :: r => if y < x then f t.toNat lv r h else f (i + 1) lv r h
    | _ => none
  | .if_icmp .le t => match st with
    | .int y :: .int x :: r => if x ≤ y then f t.toNat lv r h else f (i + 1) lv r h
    | _ => none
  | .ifCond .eq t => match st with
    | .int x :: r => if x = 0 then f t.toNat lv r h else f (i + 1) lv r h
    | _ => none
  | .ifCond .ne t => match st with
    | .int x :: r => if x = 0 then f (i + 1) lv r h else f t.toNat lv r h
    | _ => none
  | .ifCond .lt t => match st with
    | .int x :: r => if x < 0 then f t.toNat lv r h else f (i + 1) lv r h
    | _ => none
  | .ifCond .ge t => match st with
    | .int x :: r => if 0 ≤ x then f t.toNat lv r h else f (i + 1) lv r h
    | _ => none
  | .ifCond .gt t => match st with
    | .int x :: r => if 0 < x then f t.toNat lv r h else f (i + 1) lv r h
    | _ => none
  | .ifCond .le t => match st with
    | .int x :: r => if x ≤ 0 then f t.toNat lv r h else f (i + 1) lv r h
    | _ => none
  | .goto t => f t.toNat lv st h
  | .ifnonnull t => match st with
    | .ref _ :: r => f t.toNat lv r h
    | .null :: r => f (i + 1) lv r h
    | _ => none
  | .tableswitch d lo _ ts => match st with
    | .int x :: r => zsw (fun t => f t lv r h) x lo ts.toList d.toNat
    | _ => none
  | .lookupswitch d ps => match st with
    | .int x :: r => zlk (fun t => f t lv r h) x ps.toList d.toNat
    | _ => none
  | .new c => match Nat.beq (shp h.2.2.2.1) (10 + c) && Nat.beq h.2.2.2.2 0 with
    | true => f (i + 1) lv (.ref h.2.2.2.1 :: st) (zrow h.1 h.2.2.2.1 (fun _ => 0), h.2.1, zrow h.2.2.1 h.2.2.2.1 (fun _ => none), h.2.2.2.1 + 1, h.2.2.2.2)
    | false => none
  | .newarray t => match st with
    | .int k :: r => match Nat.beq (shp h.2.2.2.1) (aty t) && Nat.beq h.2.2.2.2 0 with
      | true => if k = nI (sln h.2.2.2.1) then f (i + 1) lv (.ref h.2.2.2.1 :: r) (zrow h.1 h.2.2.2.1 (fun _ => 0), zrow h.2.1 h.2.2.2.1 (fun _ => 0), h.2.2.1, h.2.2.2.1 + 1, h.2.2.2.2) else none
      | false => none
    | _ => none
  | .invokedynamic 0 => match st with
    | .ref _ :: r => match Nat.ble (zcat r) 8 with
      | true => f (i + 1) lv r h
      | false => none
    | _ => none
  | .invokedynamic 1 => match st with
    | .int y :: .int x :: r => match Nat.ble (zcat r) 8 with
      | true => f (i + 1) lv (.int (zmax x y) :: r) h
      | false => none
    | _ => none
  | .invokedynamic 2 => match st with
    | .int y :: .int x :: r => match Nat.ble (zcat r) 8 with
      | true => f (i + 1) lv (.int (zmin x y) :: r) h
      | false => none
    | _ => none
  | .invokedynamic 3 => match st with
    | .int n :: .int dp :: .ref a :: .int sp :: .ref a0 :: r => match Nat.ble (zcat r) 8 && zn h.2.2.2.1 a && zn h.2.2.2.1 a0 with
      | true => if zcp a0 sp a dp n = true then f (i + 1) lv r (zrow h.1 a (va_cpy (h.1 a0) (h.1 a) sp.toNatClampNeg dp.toNatClampNeg n.toNatClampNeg), h.2) else none
      | false => none
    | _ => none
  | .invokeinterface m q => match Nat.ble (zcat (st.drop (q % 64 / 4))) 8 && Nat.ble (q % 64 / 4) st.length with
    | true => if zrc (q / 64) (st.take (q % 64 / 4)).reverse h.2.2.2.1 = true then (match q % 4 with
      | 0 => bV (g false m (st.take (q % 64 / 4)).reverse h) (fun h' => f (i + 1) lv (st.drop (q % 64 / 4)) h')
      | 1 => bI (g false m (st.take (q % 64 / 4)).reverse h) (fun v h' => f (i + 1) lv (.int v :: st.drop (q % 64 / 4)) h')
      | _ => bL (g false m (st.take (q % 64 / 4)).reverse h) (fun v h' => f (i + 1) lv (.long v :: st.drop (q % 64 / 4)) h')) else none
    | false => none
  | .multianewarray m q => match Nat.ble (zcat (st.drop (q % 64 / 4))) 8 && Nat.ble (q % 64 / 4) st.length with
    | true => if zrc (q / 64) (st.take (q % 64 / 4)).reverse h.2.2.2.1 = true then (match q % 4 with
      | 0 => bV (g true m (st.take (q % 64 / 4)).reverse h) (fun h' => f (i + 1) lv (st.drop (q % 64 / 4)) h')
      | 1 => bI (g true m (st.take (q % 64 / 4)).reverse h) (fun v h' => f (i + 1) lv (.int v :: st.drop (q % 64 / 4)) h')
      | _ => bL (g true m (st.take (q % 64 / 4)).reverse h) (fun v h' => f (i + 1) lv (.long v :: st.drop (q % 64 / 4)) h')) else none
    | false => none
  | .jsr z => match Nat.ble (zcat (st.drop (z.toNat / 64 % 64 / 4))) 8 && Nat.ble (z.toNat / 64 % 64 / 4) st.length with
    | true => if zrc 10 (st.take (z.toNat / 64 % 64 / 4)).reverse h.2.2.2.1 = true then bT (g false (z.toNat / 4096) (st.take (z.toNat / 64 % 64 / 4)).reverse h) (fun h' => f (z.toNat % 64) (lset lv (lv.length - 1) .null) [] h') (fun v h' => f (i + 1) lv (v :: st.drop (z.toNat / 64 % 64 / 4)) h') else none
    | false => none
  | .athrow => match st with
    | [] => some (some (.retAddr 0), (h.1, h.2.1, h.2.2.1, h.2.2.2.1, h.2.2.2.2 + 1))
    | _ => none
  | .ireturn => match st with
    | [.int x] => some (some (.int x), h)
    | _ => none
  | .areturn => match st with
    | [.int x] => if zb x = true then some (some (.int x), h) else none
    | _ => none
  | .lreturn => match st with
    | [.long x] => some (some (.long x), h)
    | _ => none
  | .return_ => match st with
    | [] => some (none, h)
    | _ => none
  | _ => none
