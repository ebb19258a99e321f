/-! ===== mm: which instructions are an op ===== -/
/-- a program's tables: (place of its own kind, number in the pool, ..): fields (kind, slot), methods (number, 0 object's, 1 static, 2 constructor), ints, longs, kinds made, Object's constructor, arraycopy, rows of objects, grids, the text -/
abbrev mmT : Type := List (Nat × Nat × Nat × Nat) × List (Nat × Nat × Nat × Nat) × List (Nat × Nat × Int) × List (Nat × Nat × Int) × List (Nat × Nat × Nat) × List (Nat × Nat) × List (Nat × Nat) × List (Nat × Nat) × List (Nat × Nat) × List (Nat × Nat)
def mmB1 (q : Bool) (c : Instr × Nat) : List (Instr × Nat) := bif q then [c] else []
theorem mmB1_in {q : Bool} {c z : Instr × Nat} (h : z ∈ mmB1 q c) : q = true ∧ z = c := by
  cases q with
  | false => cases h
  | true => exact ⟨rfl, List.mem_singleton.mp h⟩
def mmF4 (i : Nat) : Fin 4 := ⟨i % 4, Nat.mod_lt _ (by omega)⟩
theorem mmF4_v {i : Nat} (h : i < 4) : (mmF4 i).val = i := Nat.mod_eq_of_lt h
def mmCond : Nat → ClassFile.Cond
  | 0 => .eq
  | 1 => .ne
  | 2 => .lt
  | 3 => .ge
  | 4 => .gt
  | _ => .le
def mmI2i : Nat → Instr
  | 0 => .iadd
  | 1 => .isub
  | 2 => .imul
  | 3 => .iand
  | 4 => .ior
  | 5 => .ixor
  | 6 => .ishl
  | 7 => .ishr
  | _ => .iushr
def mmL2i' : Nat → Instr
  | 0 => .ladd
  | 1 => .lsub
  | 2 => .lmul
  | 3 => .land
  | 4 => .lor
  | _ => .lxor
def mmDvi : Nat → Instr
  | 0 => .idiv
  | 1 => .irem
  | 2 => .ldiv
  | _ => .lrem
def mmStki : Nat → Instr
  | 0 => .dup
  | 1 => .dup2
  | _ => .pop
def mmAldi : Nat → Instr
  | 0 => .iaload
  | 1 => .laload
  | 2 => .caload
  | 3 => .baload
  | _ => .aaload
def mmAsti : Nat → Instr
  | 0 => .iastore
  | 1 => .lastore
  | 2 => .castore
  | 3 => .bastore
  | _ => .aastore
def mmAty : Nat → ArrayType
  | 0 => .int
  | 1 => .long
  | 2 => .char
  | _ => .boolean
def mmR32 (x : Int) : Bool := decide (-2147483648 ≤ x ∧ x < 2147483648)
def mmR64 (x : Int) : Bool := decide (-9223372036854775808 ≤ x ∧ x < 9223372036854775808)
/-- is it a constructor; the script; the answer's tag; the slots that may be written once -/
def mmCand (tb : mmT) (fin : Nat → Nat → Bool) (ow : Nat) (isInit sc : Bool) (rt : Nat) (pcs : List Nat) (pc : Nat) (op : mmOp) : List (Instr × Nat) :=
  let a := op.2.1
  let x := op.2.2.headD 0
  let y := (op.2.2.getD 1 0).toNat
  let n := a.toNat
  let off : Int → Int := fun b => ((pcs.getD b.toNat 0 : Nat) : Int) - (pc : Int)
  match op.1 with
  | 0 => match n with
    | 1 => mmB1 (mmR32 x && decide (Int32.ofInt x = Int32.ofInt x)) (.iconst x, 1) ++ (mmB1 (mmR32 x && decide ((Int8.ofInt x).toInt32 = Int32.ofInt x)) (.bipush x, 2) ++ (mmB1 (mmR32 x && decide ((Int16.ofInt x).toInt32 = Int32.ofInt x)) (.sipush x, 3) ++ (mmB1 (mmR32 x && decide ((ow, y, x) ∈ tb.2.2.1)) (.ldc y, 2) ++ mmB1 (mmR32 x && decide ((ow, y, x) ∈ tb.2.2.1)) (.ldc_w y, 3))))
    | 2 => mmB1 (decide (x = 0)) (.lconst 0, 1) ++ (mmB1 (decide (x = 1)) (.lconst 1, 1) ++ mmB1 (mmR64 x && decide ((ow, y, x) ∈ tb.2.2.2.1)) (.ldc2_w y, 3))
    | 5 => mmB1 (decide (x = 0) && decide ((ow, 8 * y) ∈ tb.2.2.2.2.2.2.2.2.2)) (.ldc y, 2)
    | _ => []
  | 1 => match x.toNat with
    | 1 => mmB1 (Nat.blt n 4) (.iload_n (mmF4 n), 1) ++ [(.iload n, 2)]
    | 2 => mmB1 (Nat.blt n 4) (.lload_n (mmF4 n), 1) ++ [(.lload n, 2)]
    | 3 => mmB1 (Nat.blt n 4) (.aload_n (mmF4 n), 1) ++ [(.aload n, 2)]
    | 4 => mmB1 (Nat.blt n 4) (.aload_n (mmF4 n), 1) ++ [(.aload n, 2)]
    | _ => []
  | 2 => match x.toNat with
    | 1 => mmB1 (Nat.blt n 4) (.istore_n (mmF4 n), 1) ++ [(.istore n, 2)]
    | 2 => mmB1 (Nat.blt n 4) (.lstore_n (mmF4 n), 1) ++ [(.lstore n, 2)]
    | 3 => mmB1 (Nat.blt n 4) (.astore_n (mmF4 n), 1) ++ [(.astore n, 2)]
    | _ => []
  | 3 => [(.iinc n x, 3)]
  | 4 => mmB1 (Nat.blt n 9) (mmI2i n, 1)
  | 5 => mmB1 (Nat.blt n 6) (mmL2i' n, 1)
  | 6 => mmB1 (Nat.blt n 4) (mmDvi n, 1)
  | 7 => match n with
    | 0 => [(.i2l, 1)]
    | 1 => [(.l2i, 1)]
    | _ => []
  | 8 => [(.lcmp, 1)]
  | 9 => mmB1 (Nat.blt n 3) (mmStki n, 1)
  | 10 => mmB1 (decide ((ow, y, n, x.toNat) ∈ tb.1)) (.getfield y, 3)
  | 11 => mmB1 (decide ((ow, y, n, x.toNat) ∈ tb.1) && (!fin n x.toNat || (isInit && Nat.beq ow n))) (.putfield y, 3)
  | 12 => mmB1 (Nat.blt n 6) (mmAldi n, 1)
  | 13 => mmB1 (Nat.blt n 6 && !Nat.beq n 4) (mmAsti n, 1)
  | 14 => [(.arraylength, 1)]
  | 15 => mmB1 (Nat.blt n 6) (.ifCond (mmCond n) (off x), 3)
  | 16 => mmB1 (Nat.blt n 6) (.if_icmp (mmCond n) (off x), 3)
  | 17 => [(.goto (off a), 3)]
  | 20 => mmB1 (Nat.beq n rt && Nat.blt n 5) (match n with
    | 0 => (.return_, 1)
    | 2 => (.lreturn, 1)
    | 3 => (.areturn, 1)
    | _ => (.ireturn, 1))
  | 21 => match x.toNat with
    | 0 => mmB1 (decide ((ow, y, n, 0) ∈ tb.2.1)) (.invokevirtual y, 3)
    | 1 => mmB1 (decide ((ow, y, n, 1) ∈ tb.2.1)) (.invokestatic y, 3)
    | 2 => mmB1 (decide ((ow, y, n, 2) ∈ tb.2.1)) (.invokespecial y, 3)
    | _ => []
  | 22 => mmB1 (decide ((ow, y, n) ∈ tb.2.2.2.2.1)) (.new y, 3)
  | 23 => match n with
    | 5 => mmB1 (decide ((ow, y) ∈ tb.2.2.2.2.2.2.2.1)) (.anewarray y, 3)
    | _ => mmB1 (Nat.blt n 4) (.newarray (mmAty n), 2)
  | 24 => mmB1 (decide ((ow, y) ∈ tb.2.2.2.2.2.2.2.2.1)) (.multianewarray y 2, 4)
  | 25 => mmB1 (decide ((ow, y) ∈ tb.2.2.2.2.2.2.1)) (.invokestatic y, 3)
  | 26 => mmB1 (decide ((ow, y) ∈ tb.2.2.2.2.2.1)) (.invokespecial y, 3)
  | 27 => mmB1 sc (.iaload, 1)
  | 28 => mmB1 sc (.arraylength, 1)
  | 29 => mmB1 (decide ((ow, 8 * y + 1) ∈ tb.2.2.2.2.2.2.2.2.2)) (.invokevirtual y, 3)
  | 30 => mmB1 (decide ((ow, 8 * y + 2) ∈ tb.2.2.2.2.2.2.2.2.2)) (.invokevirtual y, 3)
  | 31 => mmB1 (Nat.blt n 5 && decide ((ow, 8 * y + 3 + n) ∈ tb.2.2.2.2.2.2.2.2.2)) (.invokestatic y, 3)
  | _ => []
def mmLck (off : Int → Int) : List (Int × Int) → List Int → Bool
  | [], [] => true
  | q :: ps, k :: t :: r => decide (k = q.1) && (decide (off t = q.2) && mmLck off ps r)
  | _, _ => false
/-- switches: they have a length of their own -/
def mmSw (pcs : List Nat) (pc : Nat) (op : mmOp) (i : Instr) : Bool :=
  let off : Int → Int := fun b => ((pcs.getD b.toNat 0 : Nat) : Int) - (pc : Int)
  match op.1, op.2.2, i with
  | 18, d :: ts, .tableswitch dd lo hi offs => decide (dd = off d) && (decide (lo = op.2.1) && (decide (hi = op.2.1 + (ts.length : Int) - 1) && decide (offs = (ts.map off).toArray)))
  | 19, d :: ts, .lookupswitch dd ps => decide (dd = off d) && ((ps.toList.zip (ps.toList.drop 1)).all (fun (a, next) => decide (a.1 < next.1)) && mmLck off ps.toList ts)
  | _, _, _ => false
def mmEnds (op : mmOp) : Bool := Nat.beq op.1 17 || Nat.beq op.1 20
def mmChkB (tb : mmT) (fin : Nat → Nat → Bool) (ow : Nat) (isInit sc : Bool) (rt : Nat) (cc : ByteArray) (pcs : List Nat) : Nat → List mmOp → Bool
  | _, [] => false
  | pc, op :: ops => (Nat.beq op.1 17 && (decide (op.2.2 = []) && decide (pcs[op.2.1.toNat]? = some pc))) ||
    match decode cc pc with
    | .ok q => ((mmCand tb fin ow isInit sc rt pcs pc op).any (fun z => decide (q = z)) && (mmEnds op || mmChkB tb fin ow isInit sc rt cc pcs (pc + q.2) ops)) || mmSw pcs pc op q.1
    | _ => false
def mmChk (tb : mmT) (fin : Nat → Nat → Bool) (ow : Nat) (isInit sc : Bool) (rt : Nat) (cc : ByteArray) (pcs : List Nat) (blks : List (List mmOp)) : Bool :=
  decide (pcs[0]? = some 0) && (decide (pcs.length = blks.length) && (List.range pcs.length).all (fun b => mmChkB tb fin ow isInit sc rt cc pcs (pcs.getD b 0) (blks.getD b [])))
