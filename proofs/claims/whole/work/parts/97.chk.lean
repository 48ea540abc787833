/-! ===== the micro-operations are those of the bytes: by program ===== -/
def zeqI (a b : Instr) : Bool := decide (a = b)
def zjmp (r : zM) (pc : Nat) (off : Int) (t : Int) : Bool := Nat.blt t.toNat r.2.2.2.2.2.2.length && decide ((pc : Int) + off = (zpc r t.toNat : Int))
def zchkC (r : zM) (ri : Instr) (len M q : Nat) (b : Nat) : Bool := match nth zall M with
  | none => false
  | some r' => Nat.beq len 3 && Nat.blt r'.2.2.2.2.1.1 (r.2.2.2.2.1.1 + b) && (match ri with
    | .invokevirtual idx => decide ((r.2.2.2.2.1.2.1, idx, 0, M) ∈ zML) && Nat.beq (q / 64) (r'.2.2.2.2.1.2.1 + 1) && Nat.beq (q % 64 / 4) (r'.2.2.2.2.1.2.2 + 1)
    | .invokestatic idx => (decide ((r.2.2.2.2.1.2.1, idx, 1, M) ∈ zML) || decide ((r.2.2.2.2.1.2.1, idx, 4, M) ∈ zML) || (Nat.beq r.2.2.2.2.1.2.1 11 && decide ((idx, M) ∈ zWL))) && Nat.beq (q / 64) 0 && Nat.beq (q % 64 / 4) r'.2.2.2.2.1.2.2
    | .invokespecial idx => (decide ((r.2.2.2.2.1.2.1, idx, 2, M) ∈ zML) || decide ((r.2.2.2.2.1.2.1, idx, 3, M) ∈ zML)) && Nat.beq (q / 64) (r'.2.2.2.2.1.2.1 + 1) && Nat.beq (q % 64 / 4) (r'.2.2.2.2.1.2.2 + 1)
    | _ => false)
def zfinal (r : zM) (q : Nat) : Bool := match vwCl[q / 64]? with
  | some (_, T, _) => (!(T (q % 64)).2.2.2) || (decide (r.1.name = "<init>") && decide ((T (q % 64)).1 = r.1.cls))
  | none => false
def zchk1 (r : zM) (i pc : Nat) (ri : Instr) (len : Nat) (op : Instr) : Bool := match op with
  | .sipush v => (match ri with
    | .iconst n => decide (Int32.ofInt n = kI v) && Nat.beq len 1
    | .bipush n => decide ((Int8.ofInt n).toInt32 = kI v) && Nat.beq len 2
    | .sipush n => decide ((Int16.ofInt n).toInt32 = kI v) && Nat.beq len 3
    | .ldc n => decide ((r.2.2.2.2.1.2.1, n, v) ∈ zCI) && Nat.beq len 2
    | .ldc_w n => decide ((r.2.2.2.2.1.2.1, n, v) ∈ zCI) && Nat.beq len 3
    | _ => false)
  | .goto_w v => (match ri with
    | .lconst n => decide (Int64.ofNat (n : Nat) = kL v) && Nat.beq len 1
    | .ldc2_w n => decide ((r.2.2.2.2.1.2.1, n, v) ∈ zCJ) && Nat.beq len 3
    | _ => false)
  | .iload k => (match ri with
    | .iload j => Nat.beq j k && Nat.beq len 2
    | .iload_n j => Nat.beq j.val k && Nat.beq len 1
    | _ => false)
  | .lload k => (match ri with
    | .lload j => Nat.beq j k && Nat.beq len 2
    | .lload_n j => Nat.beq j.val k && Nat.beq len 1
    | _ => false)
  | .aload k => (match ri with
    | .aload j => Nat.beq j k && Nat.beq len 2
    | .aload_n j => Nat.beq j.val k && Nat.beq len 1
    | _ => false)
  | .istore k => Nat.blt k r.2.2.1 && (match ri with
    | .istore j => Nat.beq j k && Nat.beq len 2
    | .istore_n j => Nat.beq j.val k && Nat.beq len 1
    | _ => false)
  | .lstore k => Nat.blt (k + 1) r.2.2.1 && (match ri with
    | .lstore j => Nat.beq j k && Nat.beq len 2
    | .lstore_n j => Nat.beq j.val k && Nat.beq len 1
    | _ => false)
  | .astore k => Nat.blt k r.2.2.1 && (match ri with
    | .astore j => Nat.beq j k && Nat.beq len 2
    | .astore_n j => Nat.beq j.val k && Nat.beq len 1
    | _ => false)
  | .iinc k n => Nat.blt k r.2.2.1 && zeqI ri (.iinc k n) && Nat.beq len 3
  | .getfield q => (match ri with
    | .getfield idx => decide ((r.2.2.2.2.1.2.1, idx, q) ∈ zFL) && !(Nat.beq (zfkd (q / 64) (q % 64)) 1) && Nat.beq len 3
    | _ => false)
  | .getstatic q => (match ri with
    | .getfield idx => decide ((r.2.2.2.2.1.2.1, idx, q) ∈ zFL) && Nat.beq (zfkd (q / 64) (q % 64)) 1 && Nat.beq len 3
    | _ => false)
  | .putfield q => (match ri with
    | .putfield idx => decide ((r.2.2.2.2.1.2.1, idx, q) ∈ zFL) && Nat.beq (zfkd (q / 64) (q % 64)) 0 && zfinal r q && Nat.beq len 3
    | _ => false)
  | .fstore q => (match ri with
    | .putfield idx => decide ((r.2.2.2.2.1.2.1, idx, q) ∈ zFL) && Nat.beq (zfkd (q / 64) (q % 64)) 2 && zfinal r q && Nat.beq len 3
    | _ => false)
  | .putstatic q => (match ri with
    | .putfield idx => decide ((r.2.2.2.2.1.2.1, idx, q) ∈ zFL) && Nat.beq (zfkd (q / 64) (q % 64)) 1 && zfinal r q && Nat.beq len 3
    | _ => false)
  | .saload => zeqI ri .baload && Nat.beq len 1
  | .sastore => zeqI ri .bastore && Nat.beq len 1
  | .f2i => zeqI ri .arraylength && Nat.beq len 1
  | .faload => zeqI ri .iaload && Nat.beq len 1
  | .if_icmp cd t => (match ri with
    | .if_icmp cd' off => decide (cd' = cd) && zjmp r pc off t && Nat.beq len 3
    | _ => false)
  | .ifCond cd t => (match ri with
    | .ifCond cd' off => decide (cd' = cd) && zjmp r pc off t && Nat.beq len 3
    | _ => false)
  | .goto t => (match ri with
    | .goto off => zjmp r pc off t && Nat.beq len 3
    | _ => false)
  | .ifnonnull t => (match ri with
    | .ifnonnull off => zjmp r pc off t && Nat.beq len 3
    | _ => false)
  | .tableswitch d lo _ ts => (match ri with
    | .tableswitch d' lo' hi' offs => decide (lo' = lo) && decide (hi' = lo' + offs.size - 1) && decide (-2 ^ 31 ≤ lo') && decide (hi' < 2 ^ 31) && Nat.beq offs.size ts.toList.length && zjmp r pc d' d && (offs.toList.zip ts.toList).all (fun q => zjmp r pc q.1 q.2)
    | _ => false)
  | .lookupswitch d ps => (match ri with
    | .lookupswitch d' rs => (rs.toList.zip (rs.toList.drop 1)).all (fun (a, next) => a.1 < next.1) && zjmp r pc d' d && Nat.beq ps.toList.length rs.toList.length && (ps.toList.zip rs.toList).all (fun q => decide (q.1.1 = q.2.1) && decide (-2 ^ 31 ≤ q.1.1) && decide (q.1.1 < 2 ^ 31) && zjmp r pc q.2.2 q.1.2)
    | _ => false)
  | .new cn => (match ri with
    | .new idx => decide ((r.2.2.2.2.1.2.1, idx, cn) ∈ zNW) && Nat.beq len 3
    | _ => false)
  | .newarray t => zeqI ri (.newarray t) && Nat.blt 0 (aty t) && Nat.beq len 2
  | .invokedynamic 0 => (match ri with
    | .invokespecial idx => decide ((r.2.2.2.2.1.2.1, idx, 0) ∈ zNT) && Nat.beq len 3
    | _ => false)
  | .invokedynamic k => (match ri with
    | .invokestatic idx => decide ((r.2.2.2.2.1.2.1, idx, k) ∈ zNT) && Nat.beq len 3
    | _ => false)
  | .invokeinterface M q => zchkC r ri len M q 0
  | .multianewarray M q => zchkC r ri len M q 8
  | .jsr _ => true
  | .athrow => true
  | .nop => true
  | .ireturn => zeqI ri .ireturn && Nat.beq len 1 && decide (r.2.2.2.1 = some .int)
  | .areturn => zeqI ri .ireturn && Nat.beq len 1 && decide (r.2.2.2.1 = some .boolean)
  | .lreturn => zeqI ri .lreturn && Nat.beq len 1 && decide (r.2.2.2.1 = some .long)
  | .return_ => zeqI ri .return_ && Nat.beq len 1 && decide (r.2.2.2.1 = none)
  | op => zeqI ri op && Nat.beq len 1
def zfall : Instr → Bool
  | .goto _ => false
  | .tableswitch _ _ _ _ => false
  | .lookupswitch _ _ => false
  | .ireturn => false
  | .areturn => false
  | .lreturn => false
  | .return_ => false
  | .athrow => false
  | .nop => false
  | _ => true
def zchkI (r : zM) (i : Nat) : Bool := match nth r.2.2.2.2.2.1 i with
  | none => false
  | some op => match nth r.2.2.2.2.2.2 i with
    | none => false
    | some (pc, ri, len) => zchk1 r i pc ri len op && ((!(zfall op)) || (match nth r.2.2.2.2.2.2 (i + 1) with
      | none => false
      | some q => Nat.beq q.1 (pc + len)))
def zchkM (r : zM) : Bool := Nat.beq r.2.2.2.2.2.1.length r.2.2.2.2.2.2.length && (List.range r.2.2.2.2.2.1.length).all (zchkI r) && decide (nth zcn r.2.2.2.2.1.2.1 = some r.1.cls) && Nat.blt 0 r.2.2.2.2.1.1
def zdecM (r : zM) : Prop := ∀ q ∈ r.2.2.2.2.2.2, decode r.2.1 q.1 = .ok q.2
