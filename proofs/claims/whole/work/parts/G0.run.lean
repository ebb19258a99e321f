/-! ===== mm: a computing run, for what the constructors make ===== -/
/-- the next cell, how many slots were made, what was written: the latest first -/
abbrev cH : Type := Nat × Nat × List (Nat × Int)
def cGet : List (Nat × Int) → Nat → Int
  | [], _ => 0
  | (a, x) :: r, k => bif Nat.beq a k then x else cGet r k
def toH (c : cH) : mmH := fun k i => if k = 0 then (if i = 0 then (c.1 : Int) else if i = 1 then (c.2.1 : Int) else 0) else if 0 < k ∧ 0 ≤ i ∧ i < 65536 then cGet c.2.2 (k.toNat * 65536 + i.toNat) else 0
def cFresh (n : Nat) (l : List (Nat × Int)) : Bool := l.all (fun e => Nat.blt e.1 (n * 65536))
def cTag2 (st : List mmV) (t1 t2 : Nat) : Bool := match st with
  | b :: a :: _ => Nat.beq b.1 t1 && Nat.beq a.1 t2
  | _ => false
abbrev cO : Type := Option (Option Nat × List mmV × List mmV × cH)
def cI2 (f : Nat) (a b : Int) : Option Int := match f with
  | 0 => some (Int32.ofInt a + Int32.ofInt b).toInt
  | 1 => some (Int32.ofInt a - Int32.ofInt b).toInt
  | 2 => some (Int32.ofInt a * Int32.ofInt b).toInt
  | 4 => some (Int32.ofInt a ||| Int32.ofInt b).toInt
  | 6 => some (Int32.ofInt a <<< (Int32.ofInt b &&& 31)).toInt
  | _ => none
def cCd (cd : Nat) (a b : Int) : Option Bool := match cd with
  | 0 => some (decide (a = b))
  | 3 => some (decide (b ≤ a))
  | 4 => some (decide (b < a))
  | _ => none
def cRows (n m : Nat) (l : List (Nat × Int)) : List (Nat × Int) := (List.range m).map (fun j => (n * 65536 + j, ((n + 1 + j : Nat) : Int))) ++ l
/-- an op that neither calls nor ends -/
def cStep (w n0 z0 mc ms : Nat) (o : Nat) (a : Int) (l : List Int) (ls st : List mmV) (c : cH) : cO := match o with
  | 0 => some (none, ls, (a.toNat, l.headD 0) :: st, c)
  | 1 => bif Nat.beq (ls.getD a.toNat (0, 0)).1 (l.headD 0).toNat && Nat.blt 0 (l.headD 0).toNat then some (none, ls, ((l.headD 0).toNat, (ls.getD a.toNat (0, 0)).2) :: st, c) else none
  | 2 => match st with
    | v :: r => bif Nat.beq v.1 (l.headD 0).toNat && mmFits ls a.toNat (l.headD 0).toNat then some (none, mmSt ls a.toNat (l.headD 0).toNat v.2, r, c) else none
    | [] => none
  | 3 => bif Nat.beq (ls.getD a.toNat (0, 0)).1 1 && mmFits ls a.toNat 1 then some (none, mmSt ls a.toNat 1 (Int32.ofInt (ls.getD a.toNat (0, 0)).2 + Int32.ofInt (l.headD 0)).toInt, st, c) else none
  | 4 => match st with
    | y :: x :: r => bif Nat.beq y.1 1 && Nat.beq x.1 1 then (match cI2 a.toNat x.2 y.2 with | some z => some (none, ls, (1, z) :: r, c) | none => none) else none
    | _ => none
  | 9 => match st with
    | v :: r => bif Nat.beq a.toNat 0 && !Nat.beq v.1 2 then some (none, ls, v :: v :: r, c) else none
    | [] => none
  | 10 => match st with
    | v :: r => bif Nat.beq v.1 3 && Nat.beq (tSh v.2).1 a.toNat then some (none, ls, (tTg a.toNat (l.headD 0).toNat, toH c v.2 ((l.headD 0).toNat : Nat)) :: r, c) else none
    | [] => none
  | 11 => match st with
    | u :: v :: r => bif (Nat.beq u.1 (tTg a.toNat (l.headD 0).toNat) && Nat.beq v.1 3) && (Nat.beq (tSh v.2).1 a.toNat && (tWn w v.2 && (decide (0 < v.2) && Nat.blt (l.headD 0).toNat 65536))) then some (none, ls, r, (c.1, c.2.1, (v.2.toNat * 65536 + (l.headD 0).toNat, u.2) :: c.2.2)) else none
    | _ => none
  | 12 => match st with
    | i :: v :: r => bif (Nat.beq i.1 1 && Nat.beq v.1 3) && (Nat.beq (tSh v.2).1 (100 + a.toNat) && decide (0 ≤ i.2 ∧ i.2 < (tSh v.2).2)) then some (none, ls, (mmEt a.toNat, toH c v.2 i.2) :: r, c) else none
    | _ => none
  | 13 => match st with
    | x :: i :: v :: r => bif (Nat.beq x.1 (mmEt a.toNat) && (Nat.beq i.1 1 && Nat.beq v.1 3)) && ((Nat.beq (tSh v.2).1 (100 + a.toNat) && (tWn w v.2 && (decide (0 < v.2) && decide (i.2 < 65536)))) && (decide (0 ≤ i.2 ∧ i.2 < (tSh v.2).2) && mmFitE tSh a.toNat x.2)) then some (none, ls, r, (c.1, c.2.1, (v.2.toNat * 65536 + i.2.toNat, x.2) :: c.2.2)) else none
    | _ => none
  | 16 => match st with
    | y :: x :: r => bif Nat.beq y.1 1 && Nat.beq x.1 1 then (match cCd a.toNat x.2 y.2 with | some true => some (some (l.headD 0).toNat, ls, r, c) | some false => some (none, ls, r, c) | none => none) else none
    | _ => none
  | 17 => some (some a.toNat, ls, st, c)
  | 22 => bif (Nat.beq (tSh c.1).1 a.toNat && Nat.blt (tSh c.1).2 1000) && ((Nat.ble (c.1 + 1) (n0 + mc) && Nat.ble (c.2.1 + (tSh c.1).2) (z0 + ms)) && (cFresh c.1 c.2.2 && Nat.blt 0 c.1)) then some (none, ls, (3, (c.1 : Int)) :: st, (c.1 + 1, c.2.1 + (tSh c.1).2, c.2.2)) else none
  | 23 => match st with
    | v :: r => bif Nat.beq v.1 1 && ((Nat.beq (tSh c.1).1 (100 + a.toNat) && (decide (((tSh c.1).2 : Int) = v.2) && Nat.blt (tSh c.1).2 65536)) && ((Nat.ble (c.1 + 1) (n0 + mc) && Nat.ble (c.2.1 + (tSh c.1).2) (z0 + ms)) && (cFresh c.1 c.2.2 && Nat.blt 0 c.1))) then some (none, ls, (3, (c.1 : Int)) :: r, (c.1 + 1, c.2.1 + (tSh c.1).2, c.2.2)) else none
    | [] => none
  | 24 => match st with
    | y :: x :: r => bif (Nat.beq y.1 1 && Nat.beq x.1 1) && ((Nat.beq (tSh c.1).1 104 && (decide (((tSh c.1).2 : Int) = x.2) && Nat.blt (tSh c.1).2 65536)) && ((List.range (tSh c.1).2).all (fun j => Nat.beq (tSh ((c.1 + 1 + j : Nat) : Int)).1 100 && decide (((tSh ((c.1 + 1 + j : Nat) : Int)).2 : Int) = y.2)) && ((decide (0 ≤ y.2) && decide (y.2 < 65536)) && ((Nat.ble (c.1 + (1 + (tSh c.1).2)) (n0 + mc) && Nat.ble (c.2.1 + ((tSh c.1).2 + (tSh c.1).2 * y.2.toNat)) (z0 + ms)) && (cFresh c.1 c.2.2 && Nat.blt 0 c.1))))) then some (none, ls, (3, (c.1 : Int)) :: r, (c.1 + (1 + (tSh c.1).2), c.2.1 + ((tSh c.1).2 + (tSh c.1).2 * y.2.toNat), cRows c.1 (tSh c.1).2 c.2.2)) else none
    | _ => none
  | 26 => match st with
    | v :: r => bif (Nat.beq v.1 3 && Nat.ble (mmCat r) 8) && decide (v.2 ≠ 0) then some (none, ls, r, c) else none
    | [] => none
  | 29 => match st with
    | v :: r => bif Nat.beq v.1 5 && Nat.ble (mmCat r) 8 then some (none, ls, (1, (tTx0.length : Int)) :: r, c) else none
    | [] => none
  | 30 => match st with
    | i :: v :: r => bif (Nat.beq i.1 1 && (Nat.beq v.1 5 && Nat.ble (mmCat r) 8)) && decide (0 ≤ i.2 ∧ i.2 < tTx0.length) then some (none, ls, (1, tTx0.getD i.2.toNat 0) :: r, c) else none
    | _ => none
  | _ => none
def cRet (t : Nat) (st : List mmV) (c : cH) : Option (Int × cH) := match t with
  | 0 => match st with
    | [] => some (0, c)
    | _ => none
  | 4 => none
  | t => match st with
    | [v] => bif Nat.beq v.1 t then some (v.2, c) else none
    | _ => none
/-- the run: fuel, depth -/
def cEx : Nat → Nat → Nat → Nat → Nat → Nat → Nat → List (List mmOp) → List mmOp → List mmV → List mmV → cH → Option (Int × cH)
  | 0, _, _, _, _, _, _, _, _, _, _, _ => none
  | f + 1, dd, w, n0, z0, mc, ms, B, ops, ls, st, c => match ops with
    | [] => none
    | (o, a, l) :: r => bif Nat.beq o 20 then cRet a.toNat st c else bif Nat.beq o 21 then (match dd, mmPop (tMp a.toNat).1 st [] with
        | d + 1, some q => bif (Nat.ble (mmCat q.2) 8 && (Nat.beq (tMp a.toNat).2.2.1 99 || Nat.beq (tSh (q.1.headD 0)).1 (tMp a.toNat).2.2.1)) && (Nat.ble (c.1 + (tMp a.toNat).2.2.2.1) (n0 + mc) && Nat.ble (c.2.1 + (tMp a.toNat).2.2.2.2.1) (z0 + ms)) then
            (match cEx f d (tMp a.toNat).2.2.2.2.2 c.1 c.2.1 (tMp a.toNat).2.2.2.1 (tMp a.toNat).2.2.2.2.1 (tBl a.toNat) ((tBl a.toNat).getD 0 []) (mmIl (tMp a.toNat).1.reverse q.1 (tL a.toNat)) [] c with
            | some (x, c1) => bif (Nat.beq (tMp a.toNat).2.2.2.1 0 && Nat.beq (tMp a.toNat).2.2.2.2.1 0) || (Nat.beq c1.1 (c.1 + (tMp a.toNat).2.2.2.1) && Nat.beq c1.2.1 (c.2.1 + (tMp a.toNat).2.2.2.2.1)) then cEx f (d + 1) w n0 z0 mc ms B r ls (mmPush (mmRt (tMp a.toNat).2.1) x q.2) c1 else none
            | none => none) else none
        | _, _ => none) else match cStep w n0 z0 mc ms o a l ls st c with
        | some (some b, ls', st', c') => cEx f dd w n0 z0 mc ms B (B.getD b []) ls' st' c'
        | some (none, ls', st', c') => cEx f dd w n0 z0 mc ms B r ls' st' c'
        | none => none
