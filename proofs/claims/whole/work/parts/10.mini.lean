/-! ===== mm: a small machine. Values are (tag, number): 0 nothing, 1 int, 2 long, 3 reference (0 null, else the cell's number), 4 the script, 5 the text constant ===== -/
abbrev mmV : Type := Nat × Int
abbrev mmH : Type := Int → Int → Int
abbrev mmKont : Type := List mmV → List mmV → mmH → Prop
def mmG (b : Bool) (P : Prop) : Prop := match b with
  | true => P
  | false => False
theorem mmG_iff {b : Bool} {P : Prop} : mmG b P ↔ b = true ∧ P := by cases b <;> simp [mmG]
/-- a condition that goes away where it is decided -/
abbrev mmD (P : Prop) (d : Decidable P) (R : Prop) : Prop := mmG (@decide P d) R
theorem mmD_iff {P : Prop} {d : Decidable P} {R : Prop} : mmD P d R ↔ P ∧ R := by
  unfold mmD
  rw [mmG_iff, decide_eq_true_iff]
/-- heap store -/
def mmS (h : mmH) (k i v : Int) : mmH := fun a b => if a = k then (if b = i then v else h a b) else h a b
theorem mmS_self (h : mmH) (k i v : Int) : mmS h k i v k i = v := by simp [mmS]
theorem mmS_slot (h : mmH) (k i v j : Int) : mmS h k i v k j = if j = i then v else h k j := by simp [mmS]
theorem mmS_cell {h : mmH} {k i v a b : Int} (ha : a ≠ k) : mmS h k i v a b = h a b := by simp [mmS, ha]
/- arithmetic, sealed: nothing unfolds it but its row -/
theorem mAdd_ex : ∃ f : Int → Int → Int, ∀ a b, f a b = (Int32.ofInt a + Int32.ofInt b).toInt := ⟨_, fun _ _ => rfl⟩
noncomputable def mAdd : Int → Int → Int := mAdd_ex.choose
theorem mAdd_def (a b : Int) : mAdd a b = (Int32.ofInt a + Int32.ofInt b).toInt := mAdd_ex.choose_spec a b
theorem mSub_ex : ∃ f : Int → Int → Int, ∀ a b, f a b = (Int32.ofInt a - Int32.ofInt b).toInt := ⟨_, fun _ _ => rfl⟩
noncomputable def mSub : Int → Int → Int := mSub_ex.choose
theorem mSub_def (a b : Int) : mSub a b = (Int32.ofInt a - Int32.ofInt b).toInt := mSub_ex.choose_spec a b
theorem mMul_ex : ∃ f : Int → Int → Int, ∀ a b, f a b = (Int32.ofInt a * Int32.ofInt b).toInt := ⟨_, fun _ _ => rfl⟩
noncomputable def mMul : Int → Int → Int := mMul_ex.choose
theorem mMul_def (a b : Int) : mMul a b = (Int32.ofInt a * Int32.ofInt b).toInt := mMul_ex.choose_spec a b
theorem mAnd_ex : ∃ f : Int → Int → Int, ∀ a b, f a b = (Int32.ofInt a &&& Int32.ofInt b).toInt := ⟨_, fun _ _ => rfl⟩
noncomputable def mAnd : Int → Int → Int := mAnd_ex.choose
theorem mAnd_def (a b : Int) : mAnd a b = (Int32.ofInt a &&& Int32.ofInt b).toInt := mAnd_ex.choose_spec a b
theorem mOr_ex : ∃ f : Int → Int → Int, ∀ a b, f a b = (Int32.ofInt a ||| Int32.ofInt b).toInt := ⟨_, fun _ _ => rfl⟩
noncomputable def mOr : Int → Int → Int := mOr_ex.choose
theorem mOr_def (a b : Int) : mOr a b = (Int32.ofInt a ||| Int32.ofInt b).toInt := mOr_ex.choose_spec a b
theorem mXor_ex : ∃ f : Int → Int → Int, ∀ a b, f a b = (Int32.ofInt a ^^^ Int32.ofInt b).toInt := ⟨_, fun _ _ => rfl⟩
noncomputable def mXor : Int → Int → Int := mXor_ex.choose
theorem mXor_def (a b : Int) : mXor a b = (Int32.ofInt a ^^^ Int32.ofInt b).toInt := mXor_ex.choose_spec a b
theorem mShl_ex : ∃ f : Int → Int → Int, ∀ a b, f a b = (Int32.ofInt a <<< (Int32.ofInt b &&& 31)).toInt := ⟨_, fun _ _ => rfl⟩
noncomputable def mShl : Int → Int → Int := mShl_ex.choose
theorem mShl_def (a b : Int) : mShl a b = (Int32.ofInt a <<< (Int32.ofInt b &&& 31)).toInt := mShl_ex.choose_spec a b
theorem mShr_ex : ∃ f : Int → Int → Int, ∀ a b, f a b = (Int32.ofInt a >>> (Int32.ofInt b &&& 31)).toInt := ⟨_, fun _ _ => rfl⟩
noncomputable def mShr : Int → Int → Int := mShr_ex.choose
theorem mShr_def (a b : Int) : mShr a b = (Int32.ofInt a >>> (Int32.ofInt b &&& 31)).toInt := mShr_ex.choose_spec a b
theorem mUshr_ex : ∃ f : Int → Int → Int, ∀ a b, f a b = (((Int32.ofInt a).toUInt32 >>> ((Int32.ofInt b).toUInt32 &&& Int32.toUInt32 31)).toInt32).toInt := ⟨_, fun _ _ => rfl⟩
noncomputable def mUshr : Int → Int → Int := mUshr_ex.choose
theorem mUshr_def (a b : Int) : mUshr a b = (((Int32.ofInt a).toUInt32 >>> ((Int32.ofInt b).toUInt32 &&& Int32.toUInt32 31)).toInt32).toInt := mUshr_ex.choose_spec a b
theorem mDiv_ex : ∃ f : Int → Int → Int, ∀ a b, f a b = (Int32.ofInt a / Int32.ofInt b).toInt := ⟨_, fun _ _ => rfl⟩
noncomputable def mDiv : Int → Int → Int := mDiv_ex.choose
theorem mDiv_def (a b : Int) : mDiv a b = (Int32.ofInt a / Int32.ofInt b).toInt := mDiv_ex.choose_spec a b
theorem mRem_ex : ∃ f : Int → Int → Int, ∀ a b, f a b = (Int32.ofInt a - Int32.ofInt a / Int32.ofInt b * Int32.ofInt b).toInt := ⟨_, fun _ _ => rfl⟩
noncomputable def mRem : Int → Int → Int := mRem_ex.choose
theorem mRem_def (a b : Int) : mRem a b = (Int32.ofInt a - Int32.ofInt a / Int32.ofInt b * Int32.ofInt b).toInt := mRem_ex.choose_spec a b
noncomputable def mI2 : Nat → Int → Int → Int
  | 0 => mAdd
  | 1 => mSub
  | 2 => mMul
  | 3 => mAnd
  | 4 => mOr
  | 5 => mXor
  | 6 => mShl
  | 7 => mShr
  | _ => mUshr
-- long arithmetic
theorem nAdd_ex : ∃ f : Int → Int → Int, ∀ a b, f a b = (Int64.ofInt a + Int64.ofInt b).toInt := ⟨_, fun _ _ => rfl⟩
noncomputable def nAdd : Int → Int → Int := nAdd_ex.choose
theorem nAdd_def (a b : Int) : nAdd a b = (Int64.ofInt a + Int64.ofInt b).toInt := nAdd_ex.choose_spec a b
theorem nSub_ex : ∃ f : Int → Int → Int, ∀ a b, f a b = (Int64.ofInt a - Int64.ofInt b).toInt := ⟨_, fun _ _ => rfl⟩
noncomputable def nSub : Int → Int → Int := nSub_ex.choose
theorem nSub_def (a b : Int) : nSub a b = (Int64.ofInt a - Int64.ofInt b).toInt := nSub_ex.choose_spec a b
theorem nMul_ex : ∃ f : Int → Int → Int, ∀ a b, f a b = (Int64.ofInt a * Int64.ofInt b).toInt := ⟨_, fun _ _ => rfl⟩
noncomputable def nMul : Int → Int → Int := nMul_ex.choose
theorem nMul_def (a b : Int) : nMul a b = (Int64.ofInt a * Int64.ofInt b).toInt := nMul_ex.choose_spec a b
theorem nAnd_ex : ∃ f : Int → Int → Int, ∀ a b, f a b = (Int64.ofInt a &&& Int64.ofInt b).toInt := ⟨_, fun _ _ => rfl⟩
noncomputable def nAnd : Int → Int → Int := nAnd_ex.choose
theorem nAnd_def (a b : Int) : nAnd a b = (Int64.ofInt a &&& Int64.ofInt b).toInt := nAnd_ex.choose_spec a b
theorem nOr_ex : ∃ f : Int → Int → Int, ∀ a b, f a b = (Int64.ofInt a ||| Int64.ofInt b).toInt := ⟨_, fun _ _ => rfl⟩
noncomputable def nOr : Int → Int → Int := nOr_ex.choose
theorem nOr_def (a b : Int) : nOr a b = (Int64.ofInt a ||| Int64.ofInt b).toInt := nOr_ex.choose_spec a b
theorem nXor_ex : ∃ f : Int → Int → Int, ∀ a b, f a b = (Int64.ofInt a ^^^ Int64.ofInt b).toInt := ⟨_, fun _ _ => rfl⟩
noncomputable def nXor : Int → Int → Int := nXor_ex.choose
theorem nXor_def (a b : Int) : nXor a b = (Int64.ofInt a ^^^ Int64.ofInt b).toInt := nXor_ex.choose_spec a b
theorem nDiv_ex : ∃ f : Int → Int → Int, ∀ a b, f a b = (Int64.ofInt a / Int64.ofInt b).toInt := ⟨_, fun _ _ => rfl⟩
noncomputable def nDiv : Int → Int → Int := nDiv_ex.choose
theorem nDiv_def (a b : Int) : nDiv a b = (Int64.ofInt a / Int64.ofInt b).toInt := nDiv_ex.choose_spec a b
theorem nRem_ex : ∃ f : Int → Int → Int, ∀ a b, f a b = (Int64.ofInt a - Int64.ofInt a / Int64.ofInt b * Int64.ofInt b).toInt := ⟨_, fun _ _ => rfl⟩
noncomputable def nRem : Int → Int → Int := nRem_ex.choose
theorem nRem_def (a b : Int) : nRem a b = (Int64.ofInt a - Int64.ofInt a / Int64.ofInt b * Int64.ofInt b).toInt := nRem_ex.choose_spec a b
noncomputable def nI2 : Nat → Int → Int → Int
  | 0 => nAdd
  | 1 => nSub
  | 2 => nMul
  | 3 => nAnd
  | 4 => nOr
  | _ => nXor
theorem mL2i_ex : ∃ f : Int → Int, ∀ a, f a = (Int64.ofInt a).toInt32.toInt := ⟨_, fun _ => rfl⟩
noncomputable def mL2i : Int → Int := mL2i_ex.choose
theorem mL2i_def (a : Int) : mL2i a = (Int64.ofInt a).toInt32.toInt := mL2i_ex.choose_spec a
theorem nFdiv_ex : ∃ f : Int → Int → Int, ∀ a b, f a b = (if (Int64.ofInt a ^^^ Int64.ofInt b) < 0 then (if (Int64.ofInt a / Int64.ofInt b) * Int64.ofInt b = Int64.ofInt a then Int64.ofInt a / Int64.ofInt b else (Int64.ofInt a / Int64.ofInt b) - 1) else Int64.ofInt a / Int64.ofInt b).toInt := ⟨_, fun _ _ => rfl⟩
noncomputable def nFdiv : Int → Int → Int := nFdiv_ex.choose
theorem nFdiv_def (a b : Int) : nFdiv a b = (if (Int64.ofInt a ^^^ Int64.ofInt b) < 0 then (if (Int64.ofInt a / Int64.ofInt b) * Int64.ofInt b = Int64.ofInt a then Int64.ofInt a / Int64.ofInt b else (Int64.ofInt a / Int64.ofInt b) - 1) else Int64.ofInt a / Int64.ofInt b).toInt := nFdiv_ex.choose_spec a b
def mMax (a b : Int) : Int := if a < b then b else a
def mMin (a b : Int) : Int := if b < a then b else a
def mLcmp (a b : Int) : Int := if b < a then 1 else if a = b then 0 else -1
/-- conditions: eq ne lt ge gt le -/
def mmCd : Nat → Int → Int → Prop
  | 0, a, b => a = b
  | 1, a, b => a ≠ b
  | 2, a, b => a < b
  | 3, a, b => b ≤ a
  | 4, a, b => b < a
  | _, a, b => a ≤ b
-- locals
def mmUn (ls : List mmV) (i : Nat) : List mmV := match i with
  | 0 => ls
  | j + 1 => bif Nat.beq (ls.getD j (0, 0)).1 2 then ls.set j (0, 0) else ls
def mmSt (ls : List mmV) (i t : Nat) (x : Int) : List mmV := bif Nat.beq t 2 then ((mmUn ls i).set i (t, x)).set (i + 1) (0, 0) else (mmUn ls i).set i (t, x)
def mmFits (ls : List mmV) (i t : Nat) : Bool := bif Nat.beq t 2 then Nat.blt (i + 1) ls.length else Nat.blt i ls.length
/-- the kinds of array: 0 int, 1 long, 2 char, 3 boolean, 4 int[], 5 references -/
def mmEt : Nat → Nat
  | 1 => 2
  | 4 => 3
  | 5 => 3
  | _ => 1
def mmFitE (sh : Int → Nat × Nat) (k : Nat) (x : Int) : Bool := match k with
  | 2 => decide (0 ≤ x ∧ x < 65536)
  | 3 => decide (x = 0 ∨ x = 1)
  | 5 => Nat.beq (sh x).1 4
  | _ => true
/-- the arguments of a call, by their tags, the last one first -/
def mmPop : List Nat → List mmV → List Int → Option (List Int × List mmV)
  | [], st, acc => some (acc, st)
  | t :: ts, v :: st, acc => bif Nat.beq v.1 t then mmPop ts st (v.2 :: acc) else none
  | _ :: _, [], _ => none
def mmCat (st : List mmV) : Nat := st.foldr (fun v n => (bif Nat.beq v.1 2 then 2 else 1) + n) 0
def mmPush (t : Nat) (x : Int) (st : List mmV) : List mmV := bif Nat.beq t 0 then st else (t, x) :: st
def mmTsw (x : Int) : Int → List Int → (Nat → Prop) → Prop
  | _, [], _ => True
  | lo, t :: ts, F => (x = lo → F t.toNat) ∧ mmTsw x (lo + 1) ts F
def mmLsw (x : Int) : List Int → (Nat → Prop) → Prop → Prop
  | k :: t :: r, F, D => (x = k → F t.toNat) ∧ (¬ x = k → mmLsw x r F D)
  | _, _, D => D
/-- a call's data: the tags of its arguments, the last one first; the answer's tag (0 none, 1 int, 2 long, 3 reference, 4 an int that is 0 or 1); the receiver's kind (99: static); cells and slots that it makes; whose cells it may write: 0 all, 1 the one side, 2 the other side, 3 none -/
abbrev mmM : Type := List Nat × Nat × Nat × Nat × Nat × Nat
section MM
variable (sh : Int → Nat × Nat) (tg : Nat → Nat → Nat)
-- what a slot holds once and for all, where that is known
variable (fc : Int → Int → Option Int) (wn : Int → Bool) (mp : Nat → mmM)
variable (K : Nat → List Int → mmH → (Int → mmH → Prop) → Prop) (Q : Int → mmH → Prop) (X : Nat → mmKont)
-- how many cells and slots the method has made so far, and may make
variable (n0 z0 mc ms : Int)
def oPush (t : Nat) (c : Int) (k : mmKont) : mmKont := fun ls st h => k ls ((t, c) :: st) h
def oLoad (i t : Nat) (k : mmKont) : mmKont := fun ls st h => mmG (Nat.beq (ls.getD i (0, 0)).1 t && Nat.blt 0 t) (k ls ((t, (ls.getD i (0, 0)).2) :: st) h)
def oStore (i t : Nat) (k : mmKont) : mmKont := fun ls st h => match st with
  | [] => False
  | v :: r => mmG (Nat.beq v.1 t && mmFits ls i t) (k (mmSt ls i t v.2) r h)
noncomputable def oIinc (i : Nat) (c : Int) (k : mmKont) : mmKont := fun ls st h => mmG (Nat.beq (ls.getD i (0, 0)).1 1 && mmFits ls i 1) (k (mmSt ls i 1 (mAdd (ls.getD i (0, 0)).2 c)) st h)
noncomputable def oI2 (f : Nat) (k : mmKont) : mmKont := fun ls st h => match st with
  | b :: a :: r => mmG (Nat.beq b.1 1 && Nat.beq a.1 1) (k ls ((1, mI2 f a.2 b.2) :: r) h)
  | _ => False
noncomputable def oL2 (f : Nat) (k : mmKont) : mmKont := fun ls st h => match st with
  | b :: a :: r => mmG (Nat.beq b.1 2 && Nat.beq a.1 2) (k ls ((2, nI2 f a.2 b.2) :: r) h)
  | _ => False
noncomputable def oDv (f : Nat) (k : mmKont) : mmKont := fun ls st h => match st with
  | b :: a :: r => match f with
    | 0 => mmG (Nat.beq b.1 1 && Nat.beq a.1 1) (mmD (b.2 ≠ 0) inferInstance (k ls ((1, mDiv a.2 b.2) :: r) h))
    | 1 => mmG (Nat.beq b.1 1 && Nat.beq a.1 1) (mmD (b.2 ≠ 0) inferInstance (k ls ((1, mRem a.2 b.2) :: r) h))
    | 2 => mmG (Nat.beq b.1 2 && Nat.beq a.1 2) (mmD (b.2 ≠ 0) inferInstance (k ls ((2, nDiv a.2 b.2) :: r) h))
    | _ => mmG (Nat.beq b.1 2 && Nat.beq a.1 2) (mmD (b.2 ≠ 0) inferInstance (k ls ((2, nRem a.2 b.2) :: r) h))
  | _ => False
/-- 0 i2l, 1 l2i -/
noncomputable def oCv (f : Nat) (k : mmKont) : mmKont := fun ls st h => match st with
  | a :: r => match f with
    | 0 => mmG (Nat.beq a.1 1) (k ls ((2, a.2) :: r) h)
    | _ => mmG (Nat.beq a.1 2) (k ls ((1, mL2i a.2) :: r) h)
  | _ => False
def oLcmp (k : mmKont) : mmKont := fun ls st h => match st with
  | b :: a :: r => mmG (Nat.beq b.1 2 && Nat.beq a.1 2) (k ls ((1, mLcmp a.2 b.2) :: r) h)
  | _ => False
/-- 0 dup, 1 dup2 (of two values), 2 pop -/
def oStk (f : Nat) (k : mmKont) : mmKont := fun ls st h => match f with
  | 0 => match st with
    | a :: r => mmG (!Nat.beq a.1 2) (k ls (a :: a :: r) h)
    | _ => False
  | 1 => match st with
    | a :: b :: r => mmG (!Nat.beq a.1 2 && !Nat.beq b.1 2) (k ls (a :: b :: a :: b :: r) h)
    | _ => False
  | _ => match st with
    | a :: r => mmG (!Nat.beq a.1 2) (k ls r h)
    | _ => False
def oGet (ci s : Nat) (k : mmKont) : mmKont := fun ls st h => match st with
  | v :: r => mmG (Nat.beq v.1 3) (mmG (Nat.beq (sh v.2).1 ci) (k ls ((tg ci s, (fc v.2 s).getD (h v.2 s)) :: r) h))
  | _ => False
def oPut (ci s : Nat) (k : mmKont) : mmKont := fun ls st h => match st with
  | w :: v :: r => mmG (Nat.beq w.1 (tg ci s) && Nat.beq v.1 3) (mmG (Nat.beq (sh v.2).1 ci && (wn v.2 && (fc v.2 s).isNone)) (k ls r (mmS h v.2 s w.2)))
  | _ => False
def oAld (kd : Nat) (k : mmKont) : mmKont := fun ls st h => match st with
  | i :: a :: r => mmG (Nat.beq i.1 1 && Nat.beq a.1 3) (mmG (Nat.beq (sh a.2).1 (100 + kd)) (mmD (0 ≤ i.2 ∧ i.2 < (sh a.2).2) inferInstance (k ls ((mmEt kd, (fc a.2 i.2).getD (h a.2 i.2)) :: r) h)))
  | _ => False
def oAst (kd : Nat) (k : mmKont) : mmKont := fun ls st h => match st with
  | x :: i :: a :: r => mmG (Nat.beq x.1 (mmEt kd) && (Nat.beq i.1 1 && Nat.beq a.1 3)) (mmG (Nat.beq (sh a.2).1 (100 + kd) && (wn a.2 && (fc a.2 i.2).isNone)) (mmD (0 ≤ i.2 ∧ i.2 < (sh a.2).2) inferInstance (mmG (mmFitE sh kd x.2) (k ls r (mmS h a.2 i.2 x.2)))))
  | _ => False
def oLen (k : mmKont) : mmKont := fun ls st h => match st with
  | a :: r => mmG (Nat.beq a.1 3) (mmG (Nat.ble 100 (sh a.2).1) (k ls ((1, ((sh a.2).2 : Int)) :: r) h))
  | _ => False
def oIf (cd b : Nat) (k : mmKont) : mmKont := fun ls st h => match st with
  | a :: r => mmG (Nat.beq a.1 1) ((mmCd cd a.2 0 → X b ls r h) ∧ (¬ mmCd cd a.2 0 → k ls r h))
  | _ => False
def oIcmp (cd b : Nat) (k : mmKont) : mmKont := fun ls st h => match st with
  | y :: x :: r => mmG (Nat.beq y.1 1 && Nat.beq x.1 1) ((mmCd cd x.2 y.2 → X b ls r h) ∧ (¬ mmCd cd x.2 y.2 → k ls r h))
  | _ => False
def oTsw (lo : Int) (l : List Int) : mmKont := fun ls st h => match st with
  | a :: r => match l with
    | d :: ts => mmG (Nat.beq a.1 1) (mmTsw a.2 lo ts (fun b => X b ls r h) ∧ ((a.2 < lo ∨ lo + (ts.length : Int) ≤ a.2) → X d.toNat ls r h))
    | _ => False
  | _ => False
def oLsw (l : List Int) : mmKont := fun ls st h => match st with
  | a :: r => match l with
    | d :: ts => mmG (Nat.beq a.1 1) (mmLsw a.2 ts (fun b => X b ls r h) (X d.toNat ls r h))
    | _ => False
  | _ => False
def oRet (t : Nat) : mmKont := fun _ st h => match t with
  | 0 => match st with
    | [] => Q 0 h
    | _ => False
  | 4 => match st with
    | [v] => mmG (Nat.beq v.1 1) (mmD (v.2 = 0 ∨ v.2 = 1) inferInstance (Q v.2 h))
    | _ => False
  | t => match st with
    | [v] => mmG (Nat.beq v.1 t) (Q v.2 h)
    | _ => False
/-- the answer's tag on the caller's stack -/
def mmRt (t : Nat) : Nat := bif Nat.beq t 4 then 1 else t
def oCall (mi : Nat) (k : mmKont) : mmKont := fun ls st h => match mmPop (mp mi).1 st [] with
  | none => False
  | some q => mmG (Nat.ble (mmCat q.2) 8) (mmG (Nat.beq (mp mi).2.2.1 99 || Nat.beq (sh (q.1.headD 0)).1 (mp mi).2.2.1) (mmG ((Nat.beq (mp mi).2.2.2.1 0 && Nat.beq (mp mi).2.2.2.2.1 0) || decide (h 0 0 - n0 + ((mp mi).2.2.2.1 : Int) ≤ mc ∧ h 0 1 - z0 + ((mp mi).2.2.2.2.1 : Int) ≤ ms))
      (K mi q.1 h (fun x h' => k ls (mmPush (mmRt (mp mi).2.1) x q.2) h'))))
/-- the next cell, blank -/
def mmZ (h : mmH) : mmH := fun a b => if a = h 0 0 then 0 else h a b
/-- an object of kind ci is made: the next cell -/
def oNew (ci : Nat) (k : mmKont) : mmKont := fun ls st h =>
  ((sh (h 0 0)).1 = ci ∧ (sh (h 0 0)).2 < 1000) ∧ (h 0 0 - n0 + 1 ≤ mc ∧ h 0 1 - z0 + ((sh (h 0 0)).2 : Int) ≤ ms) ∧
    k ls ((3, h 0 0) :: st) (mmS (mmS (mmZ h) 0 0 (h 0 0 + 1)) 0 1 (h 0 1 + ((sh (h 0 0)).2 : Int)))
def oNewA (kd : Nat) (k : mmKont) : mmKont := fun ls st h => match st with
  | a :: r => mmG (Nat.beq a.1 1) (((sh (h 0 0)).1 = 100 + kd ∧ ((sh (h 0 0)).2 : Int) = a.2 ∧ a.2 < 65536) ∧ (h 0 0 - n0 + 1 ≤ mc ∧ h 0 1 - z0 + a.2 ≤ ms) ∧
    k ls ((3, h 0 0) :: r) (mmS (mmS (mmZ h) 0 0 (h 0 0 + 1)) 0 1 (h 0 1 + a.2)))
  | _ => False
/-- new int[n][m]: the outer one's cells hold the numbers of the next n cells -/
def mmRows (h : mmH) (n : Int) : mmH := fun a b => if a = h 0 0 then (if 0 ≤ b ∧ b < n then h 0 0 + 1 + b else 0) else if h 0 0 < a ∧ a ≤ h 0 0 + n then 0 else h a b
def oNewM (k : mmKont) : mmKont := fun ls st h => match st with
  | y :: x :: r => mmG (Nat.beq y.1 1 && Nat.beq x.1 1) (((sh (h 0 0)).1 = 104 ∧ ((sh (h 0 0)).2 : Int) = x.2 ∧ x.2 < 65536) ∧ (∀ j : Nat, j < x.2.toNat → (sh (h 0 0 + 1 + j)).1 = 100 ∧ ((sh (h 0 0 + 1 + j)).2 : Int) = y.2) ∧ (0 ≤ y.2 ∧ y.2 < 65536) ∧ (h 0 0 - n0 + (1 + x.2) ≤ mc ∧ h 0 1 - z0 + (x.2 + x.2 * y.2) ≤ ms) ∧
    k ls ((3, h 0 0) :: r) (mmS (mmS (mmRows h x.2) 0 0 (h 0 0 + (1 + x.2))) 0 1 (h 0 1 + (x.2 + x.2 * y.2))))
  | _ => False
/-- System.arraycopy over int rows -/
def mmCpy (h : mmH) (a sp b dp n : Int) : mmH := fun c i => if c = b then (if dp ≤ i ∧ i < dp + n then h a (sp + (i - dp)) else h c i) else h c i
def oCpy (k : mmKont) : mmKont := fun ls st h => match st with
  | n :: dp :: b :: sp :: a :: r => mmG (Nat.beq n.1 1 && (Nat.beq dp.1 1 && (Nat.beq b.1 3 && (Nat.beq sp.1 1 && (Nat.beq a.1 3 && Nat.ble (mmCat r) 8)))))
      (mmG (Nat.beq (sh a.2).1 100 && (Nat.beq (sh b.2).1 100 && wn b.2)) (mmD ((0 ≤ sp.2 ∧ 0 ≤ dp.2 ∧ 0 ≤ n.2) ∧ (sp.2 + n.2 ≤ (sh a.2).2 ∧ dp.2 + n.2 ≤ (sh b.2).2)) inferInstance (k ls r (mmCpy h a.2 sp.2 b.2 dp.2 n.2))))
  | _ => False
def oObj (k : mmKont) : mmKont := fun ls st h => match st with
  | a :: r => mmG (Nat.beq a.1 3 && Nat.ble (mmCat r) 8) (mmD (a.2 ≠ 0) inferInstance (k ls r h))
  | _ => False
-- the script: its length L and what it holds
variable (L : Int) (xs : Int → Int)
def oSld (k : mmKont) : mmKont := fun ls st h => match st with
  | i :: a :: r => mmG (Nat.beq i.1 1 && Nat.beq a.1 4) ((0 ≤ i.2 ∧ i.2 < L) ∧ k ls ((1, xs i.2) :: r) h)
  | _ => False
def oSlen (k : mmKont) : mmKont := fun ls st h => match st with
  | a :: r => mmG (Nat.beq a.1 4) (k ls ((1, L) :: r) h)
  | _ => False
-- the text constant: its length and its characters
variable (tx : List Int)
def oTlen (k : mmKont) : mmKont := fun ls st h => match st with
  | a :: r => mmG (Nat.beq a.1 5 && Nat.ble (mmCat r) 8) (k ls ((1, (tx.length : Int)) :: r) h)
  | _ => False
def oTat (k : mmKont) : mmKont := fun ls st h => match st with
  | i :: a :: r => mmG (Nat.beq i.1 1 && (Nat.beq a.1 5 && Nat.ble (mmCat r) 8)) ((0 ≤ i.2 ∧ i.2 < tx.length) ∧ k ls ((1, tx.getD i.2.toNat 0) :: r) h)
  | _ => False
/-- the library's pure functions: 0 max, 1 min, 2 max of longs, 3 min of longs, 4 floorDiv of longs -/
noncomputable def oMath (f : Nat) (k : mmKont) : mmKont := fun ls st h => match st with
  | b :: a :: r => match f with
    | 0 => mmG (Nat.beq b.1 1 && (Nat.beq a.1 1 && Nat.ble (mmCat r) 8)) (k ls ((1, mMax a.2 b.2) :: r) h)
    | 1 => mmG (Nat.beq b.1 1 && (Nat.beq a.1 1 && Nat.ble (mmCat r) 8)) (k ls ((1, mMin a.2 b.2) :: r) h)
    | 2 => mmG (Nat.beq b.1 2 && (Nat.beq a.1 2 && Nat.ble (mmCat r) 8)) (k ls ((2, mMax a.2 b.2) :: r) h)
    | 3 => mmG (Nat.beq b.1 2 && (Nat.beq a.1 2 && Nat.ble (mmCat r) 8)) (k ls ((2, mMin a.2 b.2) :: r) h)
    | _ => mmG (Nat.beq b.1 2 && (Nat.beq a.1 2 && Nat.ble (mmCat r) 8)) (mmD (b.2 ≠ 0) inferInstance (k ls ((2, nFdiv a.2 b.2) :: r) h))
  | _ => False
/-- one op: its number, two parameters -/
noncomputable def mmStep (o : Nat) (a : Int) (l : List Int) (k : mmKont) : mmKont := match o with
  | 0 => oPush a.toNat (l.headD 0) k
  | 1 => oLoad a.toNat (l.headD 0).toNat k
  | 2 => oStore a.toNat (l.headD 0).toNat k
  | 3 => oIinc a.toNat (l.headD 0) k
  | 4 => oI2 a.toNat k
  | 5 => oL2 a.toNat k
  | 6 => oDv a.toNat k
  | 7 => oCv a.toNat k
  | 8 => oLcmp k
  | 9 => oStk a.toNat k
  | 10 => oGet sh tg fc a.toNat (l.headD 0).toNat k
  | 11 => oPut sh tg fc wn a.toNat (l.headD 0).toNat k
  | 12 => oAld sh fc a.toNat k
  | 13 => oAst sh fc wn a.toNat k
  | 14 => oLen sh k
  | 15 => oIf X a.toNat (l.headD 0).toNat k
  | 16 => oIcmp X a.toNat (l.headD 0).toNat k
  | 17 => X a.toNat
  | 18 => oTsw X a l
  | 19 => oLsw X l
  | 20 => oRet Q a.toNat
  | 21 => oCall sh mp K n0 z0 mc ms a.toNat k
  | 22 => oNew sh n0 z0 mc ms a.toNat k
  | 23 => oNewA sh n0 z0 mc ms a.toNat k
  | 24 => oNewM sh n0 z0 mc ms k
  | 25 => oCpy sh wn k
  | 26 => oObj k
  | 27 => oSld L xs k
  | 28 => oSlen L k
  | 29 => oTlen tx k
  | 30 => oTat tx k
  | 31 => oMath a.toNat k
  | _ => fun _ _ _ => False
abbrev mmOp : Type := Nat × Int × List Int
noncomputable def mmEx (ops : List mmOp) : mmKont := ops.foldr (fun op k => mmStep sh tg fc wn mp K Q X n0 z0 mc ms L xs tx op.1 op.2.1 op.2.2 k) (fun _ _ _ => False)
end MM
