/-! WHAT THE ROWS REST ON: each row is what the bytes decode to, and its words stand in the tables -/
def isNest : Jvm.Cond → Bool
  | .fieldLinkNest _ _ _ _ _ _ => true
  | .methodLinkNest _ _ _ _ => true
  | _ => false
def tblC (k : Nat) : List Jvm.Cond := match k with
  | 0 => k2_sels lw_privs
  | 1 => tables_1_1
  | 2 => tables_1_2
  | 3 => tables_1_3
  | 4 => tables_1_4
  | 5 => tables_1_5
  | 6 => tables_1_6
  | 7 => tables_1_7
  | 8 => tables_1_8
  | 9 => tables_1_9
  | _ => []
def wd (u : Nat) : Option Jvm.Cond := (tblC (u / 1000))[u % 1000]?
def okW (u : Nat) (x : Jvm.Cond) : Bool := decide (wd u = some x) && goodWord x
def okN (u : Nat) (x : Jvm.Cond) : Bool := decide (wd u = some x) && isNest x
def offT (t pc : Nat) : Int := (t : Int) - (pc : Int)
def swI (a pc : Nat) : Instr := match sws[a]? with
  | none => .nop
  | some q => .tableswitch (offT q.2.2 pc) q.1 (q.1 + q.2.1.length - 1) (q.2.1.map (fun t => offT t pc)).toArray
def rawOf (o : Opn) (pc : Nat) : Instr := match o.1 with
  | 0 => (match o.2.1 with
    | 0 => .iconst o.2.2.2.2.2.toInt
    | 1 => .bipush o.2.2.2.2.2.toInt
    | 2 => .sipush o.2.2.2.2.2.toInt
    | 3 => .ldc o.2.2.2.1
    | _ => .ldc_w o.2.2.2.1)
  | 1 => (match o.2.1 with
    | 3 => .ldc o.2.2.2.1
    | _ => .ldc_w o.2.2.2.1)
  | 2 => (match o.2.1 with
    | 2 => .ldc2_w o.2.2.2.1
    | _ => .lconst (Fin.ofNat 2 o.2.1))
  | 3 => (match o.2.2.1 with
    | 0 => .iload_n (f4 o.2.1)
    | _ => .iload o.2.1)
  | 4 => (match o.2.2.1 with
    | 0 => .aload_n (f4 o.2.1)
    | _ => .aload o.2.1)
  | 5 => (match o.2.2.1 with
    | 0 => .istore_n (f4 o.2.1)
    | _ => .istore o.2.1)
  | 6 => .iinc o.2.1 o.2.2.2.2.2.toInt
  | 7 => ([.iadd, .isub, .imul, .iand, .ior, .ixor, .ishl, .ishr, .iushr] : List Instr).getD o.2.1 .nop
  | 8 => (match o.2.1 with
    | 0 => .idiv
    | _ => .irem)
  | 9 => .ineg
  | 10 => .i2l
  | 11 => .i2b
  | 12 => .lcmp
  | 13 => (match o.2.1 with
    | 0 => .ladd
    | _ => .lsub)
  | 14 => .dup
  | 15 => .dup2
  | 16 => .pop
  | 17 => .getfield o.2.2.2.1
  | 18 => .putfield o.2.2.2.1
  | 19 => .putfield o.2.2.2.1
  | 20 => .putfield o.2.2.2.1
  | 21 => .iaload
  | 22 => .baload
  | 23 => .laload
  | 24 => .iastore
  | 25 => .bastore
  | 26 => .lastore
  | 27 => .arraylength
  | 28 => .invokestatic o.2.2.2.1
  | 29 => .invokestatic o.2.2.2.1
  | 30 => .invokestatic o.2.2.2.1
  | 31 => .invokevirtual o.2.2.2.1
  | 32 => .invokevirtual o.2.2.2.1
  | 33 => .invokestatic o.2.2.2.1
  | 34 => .iaload
  | 35 => .arraylength
  | 50 => .goto (offT o.2.1 pc)
  | 51 => .ifCond (ccs.getD o.2.2.1 .eq) (offT o.2.1 pc)
  | 52 => .if_icmp (ccs.getD o.2.2.1 .eq) (offT o.2.1 pc)
  | 53 => swI o.2.1 pc
  | 54 => .ireturn
  | 55 => .return_
  | 56 => .new o.2.2.2.1
  | 57 => .invokevirtual o.2.2.2.1
  | 58 => .invokestatic o.2.2.2.1
  | 59 => .invokevirtual o.2.2.2.1
  | 60 => .invokestatic o.2.2.2.1
  | 61 => .invokestatic o.2.2.2.1
  | _ => .nop
def lenR (o : Opn) : Nat := match o.1 with
  | 50 => 3
  | 51 => 3
  | 52 => 3
  | 53 => o.2.2.1
  | 54 => 1
  | 55 => 1
  | 56 => 3
  | 57 => 3
  | 58 => 3
  | 59 => 3
  | 60 => 3
  | 61 => 3
  | _ => lenOf o
def okF (M : Nat) (o : Opn) (ty : Option FieldType) : Bool := match clT[o.2.1]? with
  | none => false
  | some q => Nat.blt o.2.2.1 q.2.2 && decide ((q.2.1 o.2.2.1).1 = q.1) &&
    (match o.2.2.2.2.2 == 0 with
      | true => okW o.2.2.2.2.1 (.fieldLink (mown M) o.2.2.2.1 q.1 (q.2.1 o.2.2.1).2.1 (q.2.1 o.2.2.1).2.2.1)
      | false => okN o.2.2.2.2.1 (.fieldLinkNest (mown M) o.2.2.2.1 q.1 (q.2.1 o.2.2.1).2.1 (q.2.1 o.2.2.1).2.2.1 "YesNoRays")) &&
    (match ty with
      | none => true
      | some t => decide (parseFieldDescriptor (q.2.1 o.2.2.1).2.2.1 = some t) && decide ((q.2.1 o.2.2.1).2.2.2 = false))
def okM (M : Nat) : Bool := decide ((mname M).cls ≠ "java/lang/invoke/MethodHandle" ∧ (mname M).cls ≠ "java/lang/invoke/VarHandle") && plainName (mname M).cls && okW (mn M 6) (.initialized (mname M).cls) && Nat.ble (mmax M) 12 &&
  (match mn M 2 with
    | 0 => okW (mn M 4) (.instanceMethod (mname M)) && okW (mn M 5) (.selects (mname M).cls (mname M) (mname M)) && decide ((parseMethodDescriptor (mname M).desc).map (fun d => d.parameters.length + 1) = some (mn M 1))
    | 1 => okW (mn M 7) (.static (mname M)) && decide ((parseMethodDescriptor (mname M).desc).map (fun d => d.parameters.length) = some (mn M 1))
    | _ => okW (mn M 7) (.static (mname M)) && decide ((parseMethodDescriptor (mname M).desc).map (fun d => d.parameters.length) = some (mn M 1)))
def okL (M pc : Nat) (o : Opn) : Bool := match o.1 with
  | 0 => (match o.2.1 with
    | 0 => true
    | 1 => decide ((Int8.ofInt o.2.2.2.2.2.toInt).toInt32 = o.2.2.2.2.2)
    | 2 => decide ((Int16.ofInt o.2.2.2.2.2.toInt).toInt32 = o.2.2.2.2.2)
    | 3 => okW o.2.2.2.2.1 (.constant (mown M) o.2.2.2.1 o.2.2.2.2.2)
    | 4 => okW o.2.2.2.2.1 (.constant (mown M) o.2.2.2.1 o.2.2.2.2.2)
    | _ => false)
  | 1 => Nat.blt o.2.2.1 53 && decide ((sTab.getD o.2.2.1 ("", 0, "", 0)).1 = mown M ∧ (sTab.getD o.2.2.1 ("", 0, "", 0)).2.1 = o.2.2.2.1) && (Nat.beq o.2.1 3 || Nat.beq o.2.1 4)
  | 2 => (match o.2.1 with
    | 2 => okW o.2.2.2.2.1 (.constantLong (mown M) o.2.2.2.1 o.2.2.2.2.2.toInt64)
    | _ => Nat.blt o.2.1 2 && decide (Int64.ofNat ((Fin.ofNat 2 o.2.1 : Fin 2) : Nat) = o.2.2.2.2.2.toInt64))
  | 3 => (match o.2.2.1 with
    | 0 => Nat.blt o.2.1 4
    | k => Nat.beq k 1)
  | 4 => (match o.2.2.1 with
    | 0 => Nat.blt o.2.1 4
    | k => Nat.beq k 1)
  | 5 => Nat.blt o.2.1 (mmax M) && (match o.2.2.1 with
    | 0 => Nat.blt o.2.1 4
    | k => Nat.beq k 1)
  | 6 => Nat.blt o.2.1 (mmax M)
  | 7 => Nat.blt o.2.1 9
  | 17 => okF M o none
  | 18 => okF M o (some .int)
  | 19 => okF M o (some .boolean)
  | 20 => okF M o (some .long)
  | 28 => okW o.2.2.2.2.1 (.methodLink (mown M) o.2.2.2.1 Lib.Math.abs.name)
  | 29 => okW o.2.2.2.2.1 (.methodLink (mown M) o.2.2.2.1 Lib.Math.min.name)
  | 30 => okW o.2.2.2.2.1 (.methodLink (mown M) o.2.2.2.1 Lib.Math.max.name)
  | 31 => okW o.2.2.2.2.1 (.methodLink (mown M) o.2.2.2.1 ⟨"java/lang/String", "length", "()I"⟩)
  | 32 => okW o.2.2.2.2.1 (.methodLink (mown M) o.2.2.2.1 ⟨"java/lang/String", "charAt", "(I)C"⟩)
  | 33 => okW o.2.2.2.2.1 (.methodLink (mown M) o.2.2.2.1 arraycopyName)
  | 34 => Nat.beq M lawM
  | 35 => Nat.beq M lawM
  | 51 => Nat.blt o.2.2.1 6
  | 52 => Nat.blt o.2.2.1 6
  | 53 => (sws[o.2.1]?).isSome
  | 54 => (match o.2.1 with
    | 0 => decide (mret M = some .int)
    | _ => Nat.beq o.2.1 1 && decide (mret M = some .boolean))
  | 55 => decide (mret M = none)
  | 56 => !(Nat.beq M lawM) && (hdl M).isEmpty && (match o.2.2.2.2.2 == 0 with
    | true => decide (decode (mcode M) (pc + 3) = .ok (.dup, 1)) && decide (decode (mcode M) (pc + 4) = .ok (.ldc o.2.2.1, 2)) && decide (decode (mcode M) (pc + 6) = .ok (.invokespecial o.2.2.2.2.1, 3)) && decide (decode (mcode M) (pc + 9) = .ok (.athrow, 1))
    | false => decide (decode (mcode M) (pc + 3) = .ok (.dup, 1)) && decide (decode (mcode M) (pc + 4) = .ok (.ldc_w o.2.2.1, 3)) && decide (decode (mcode M) (pc + 7) = .ok (.invokespecial o.2.2.2.2.1, 3)) && decide (decode (mcode M) (pc + 10) = .ok (.athrow, 1)))
  | 57 => okW o.2.2.2.2.1 (.methodLink (mown M) o.2.2.2.1 (mname o.2.1)) && Nat.beq (mn o.2.1 2) 0 && Nat.beq (mn o.2.1 1) o.2.2.1 && Nat.blt o.2.1 288
  | 58 => okW o.2.2.2.2.1 (.methodLink (mown M) o.2.2.2.1 (mname o.2.1)) && Nat.beq (mn o.2.1 2) 1 && Nat.beq (mn o.2.1 1) o.2.2.1 && Nat.blt o.2.1 288
  | 59 => okN o.2.2.2.2.1 (.methodLinkNest (mown M) o.2.2.2.1 (mname o.2.1) "YesNoRays") && Nat.beq (mn o.2.1 2) 0 && Nat.beq (mn o.2.1 1) o.2.2.1 && Nat.blt o.2.1 288
  | 60 => okN o.2.2.2.2.1 (.methodLinkNest (mown M) o.2.2.2.1 (mname o.2.1) "YesNoRays") && Nat.beq (mn o.2.1 2) 1 && Nat.beq (mn o.2.1 1) o.2.2.1 && Nat.blt o.2.1 288
  | 61 => okW o.2.2.2.2.1 (.methodLink (mown M) o.2.2.2.1 (mname o.2.1)) && Nat.beq (mn o.2.1 2) 2 && Nat.beq (mn o.2.1 1) o.2.2.1 && Nat.blt o.2.1 288
  | _ => true
def okRow (M : Nat) (r : Row) : Bool := decide (decode (mcode M) r.1 = .ok (rawOf r.2.2 r.1, lenR r.2.2)) && okL M r.1 r.2.2
