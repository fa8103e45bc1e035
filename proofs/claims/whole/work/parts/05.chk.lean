/-! the tables held against the code and the words of the Statement: by evaluation -/
def em_nrm (o pc : Nat) (i : Instr) : Instr := match i with
  | .iload_n k => .iload k.val
  | .lload_n k => .lload k.val
  | .aload_n k => .aload k.val
  | .istore_n k => .istore k.val
  | .lstore_n k => .lstore k.val
  | .astore_n k => .astore k.val
  | .bipush n => .iconst n
  | .sipush n => .iconst n
  | .ldc k => match em_cst o k with
    | some (v, _) => .iconst v
    | none => .ldc k
  | .ldc_w k => match em_cst o k with
    | some (v, _) => .iconst v
    | none => .ldc_w k
  | .goto t => .goto (pc + t)
  | .ifCond c t => .ifCond c (pc + t)
  | .if_icmp c t => .if_icmp c (pc + t)
  | .tableswitch d lo hi offs => .tableswitch (pc + d) lo hi (offs.map (fun t => (pc : Int) + t))
  | .lookupswitch d ps => .lookupswitch (pc + d) (ps.map (fun q => (q.1, (pc : Int) + q.2)))
  | i => i
def em_lok (pc : Nat) (i : Instr) (len : Nat) : Bool := match i with
  | .iload _ => Nat.beq len 2
  | .lload _ => Nat.beq len 2
  | .aload _ => Nat.beq len 2
  | .istore _ => Nat.beq len 2
  | .lstore _ => Nat.beq len 2
  | .astore _ => Nat.beq len 2
  | .ldc _ => Nat.beq len 2
  | .newarray _ => Nat.beq len 2
  | .bipush n => Nat.beq len 2 && decide ((Int8.ofInt n).toInt32 = Int32.ofInt n)
  | .sipush n => Nat.beq len 3 && decide ((Int16.ofInt n).toInt32 = Int32.ofInt n)
  | .ldc_w _ => Nat.beq len 3
  | .ldc2_w _ => Nat.beq len 3
  | .iinc _ _ => Nat.beq len 3
  | .getfield _ => Nat.beq len 3
  | .getstatic _ => Nat.beq len 3
  | .putfield _ => Nat.beq len 3
  | .invokevirtual _ => Nat.beq len 3
  | .invokestatic _ => Nat.beq len 3
  | .invokespecial _ => Nat.beq len 3
  | .new _ => Nat.beq len 3
  | .anewarray _ => Nat.beq len 3
  | .goto t => Nat.beq len 3 && decide (0 ≤ (pc : Int) + t)
  | .ifCond _ t => Nat.beq len 3 && decide (0 ≤ (pc : Int) + t)
  | .if_icmp _ t => Nat.beq len 3 && decide (0 ≤ (pc : Int) + t)
  | .tableswitch d _ _ offs => decide (0 ≤ (pc : Int) + d) && offs.toList.all (fun t => decide (0 ≤ (pc : Int) + t))
  | .lookupswitch d ps => (ps.toList.zip (ps.toList.drop 1)).all (fun (a, next) => a.1 < next.1) && decide (0 ≤ (pc : Int) + d) && ps.toList.all (fun q => decide (0 ≤ (pc : Int) + q.2))
  | _ => Nat.beq len 1
def em_chk (ix pc : Nat) : Bool := match em_ins ix pc with
  | none => true
  | some (i, nx) => match decode (em_cd ix) pc with
    | .ok (j, len) => decide (em_nrm (em_own ix) pc j = i) && Nat.beq nx (pc + len) && em_lok pc j len
    | .error _ => false
def em_chm (ix : Nat) : Bool := (List.range (em_sz ix)).all (em_chk ix)
def em_chr (ix a k : Nat) : Bool := (List.range' a k).all (em_chk ix)
