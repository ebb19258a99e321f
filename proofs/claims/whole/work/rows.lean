section
/-! ===== mm: a small machine. Values are (tag, number): 0 nothing, 1 int, 2 long, 3 reference (0 null, else the cell's number), 4 the script, 5 the text constant ===== -/
abbrev mmV : Type := Nat × Int
abbrev mmH : Type := Int → Int → Int
abbrev mmKont : Type := List mmV → List mmV → mmH → Prop
def mmG (b : Bool) (P : Prop) : Prop := match b with
  | true => P
  | false => False
theorem mmG_iff {b : Bool} {P : Prop} : mmG b P ↔ b = true ∧ P := by cases b <;> simp [mmG]
/-- a condition that goes away where it is decided -/
abbrev mmD (P : Prop) (d : Decidable P) (R : Prop) : Prop := mmG (@decide P d) R
theorem mmD_iff {P : Prop} {d : Decidable P} {R : Prop} : mmD P d R ↔ P ∧ R := by
  unfold mmD
  rw [mmG_iff, decide_eq_true_iff]
/-- heap store -/
def mmS (h : mmH) (k i v : Int) : mmH := fun a b => if a = k then (if b = i then v else h a b) else h a b
theorem mmS_self (h : mmH) (k i v : Int) : mmS h k i v k i = v := by simp [mmS]
theorem mmS_slot (h : mmH) (k i v j : Int) : mmS h k i v k j = if j = i then v else h k j := by simp [mmS]
theorem mmS_cell {h : mmH} {k i v a b : Int} (ha : a ≠ k) : mmS h k i v a b = h a b := by simp [mmS, ha]
/- arithmetic, sealed: nothing unfolds it but its row -/
theorem mAdd_ex : ∃ f : Int → Int → Int, ∀ a b, f a b = (Int32.ofInt a + Int32.ofInt b).toInt := ⟨_, fun _ _ => rfl⟩
noncomputable def mAdd : Int → Int → Int := mAdd_ex.choose
theorem mAdd_def (a b : Int) : mAdd a b = (Int32.ofInt a + Int32.ofInt b).toInt := mAdd_ex.choose_spec a b
theorem mSub_ex : ∃ f : Int → Int → Int, ∀ a b, f a b = (Int32.ofInt a - Int32.ofInt b).toInt := ⟨_, fun _ _ => rfl⟩
noncomputable def mSub : Int → Int → Int := mSub_ex.choose
theorem mSub_def (a b : Int) : mSub a b = (Int32.ofInt a - Int32.ofInt b).toInt := mSub_ex.choose_spec a b
theorem mMul_ex : ∃ f : Int → Int → Int, ∀ a b, f a b = (Int32.ofInt a * Int32.ofInt b).toInt := ⟨_, fun _ _ => rfl⟩
noncomputable def mMul : Int → Int → Int := mMul_ex.choose
theorem mMul_def (a b : Int) : mMul a b = (Int32.ofInt a * Int32.ofInt b).toInt := mMul_ex.choose_spec a b
theorem mAnd_ex : ∃ f : Int → Int → Int, ∀ a b, f a b = (Int32.ofInt a &&& Int32.ofInt b).toInt := ⟨_, fun _ _ => rfl⟩
noncomputable def mAnd : Int → Int → Int := mAnd_ex.choose
theorem mAnd_def (a b : Int) : mAnd a b = (Int32.ofInt a &&& Int32.ofInt b).toInt := mAnd_ex.choose_spec a b
theorem mOr_ex : ∃ f : Int → Int → Int, ∀ a b, f a b = (Int32.ofInt a ||| Int32.ofInt b).toInt := ⟨_, fun _ _ => rfl⟩
noncomputable def mOr : Int → Int → Int := mOr_ex.choose
theorem mOr_def (a b : Int) : mOr a b = (Int32.ofInt a ||| Int32.ofInt b).toInt := mOr_ex.choose_spec a b
theorem mXor_ex : ∃ f : Int → Int → Int, ∀ a b, f a b = (Int32.ofInt a ^^^ Int32.ofInt b).toInt := ⟨_, fun _ _ => rfl⟩
noncomputable def mXor : Int → Int → Int := mXor_ex.choose
theorem mXor_def (a b : Int) : mXor a b = (Int32.ofInt a ^^^ Int32.ofInt b).toInt := mXor_ex.choose_spec a b
theorem mShl_ex : ∃ f : Int → Int → Int, ∀ a b, f a b = (Int32.ofInt a <<< (Int32.ofInt b &&& 31)).toInt := ⟨_, fun _ _ => rfl⟩
noncomputable def mShl : Int → Int → Int := mShl_ex.choose
theorem mShl_def (a b : Int) : mShl a b = (Int32.ofInt a <<< (Int32.ofInt b &&& 31)).toInt := mShl_ex.choose_spec a b
theorem mShr_ex : ∃ f : Int → Int → Int, ∀ a b, f a b = (Int32.ofInt a >>> (Int32.ofInt b &&& 31)).toInt := ⟨_, fun _ _ => rfl⟩
noncomputable def mShr : Int → Int → Int := mShr_ex.choose
theorem mShr_def (a b : Int) : mShr a b = (Int32.ofInt a >>> (Int32.ofInt b &&& 31)).toInt := mShr_ex.choose_spec a b
theorem mUshr_ex : ∃ f : Int → Int → Int, ∀ a b, f a b = (((Int32.ofInt a).toUInt32 >>> ((Int32.ofInt b).toUInt32 &&& Int32.toUInt32 31)).toInt32).toInt := ⟨_, fun _ _ => rfl⟩
noncomputable def mUshr : Int → Int → Int := mUshr_ex.choose
theorem mUshr_def (a b : Int) : mUshr a b = (((Int32.ofInt a).toUInt32 >>> ((Int32.ofInt b).toUInt32 &&& Int32.toUInt32 31)).toInt32).toInt := mUshr_ex.choose_spec a b
theorem mDiv_ex : ∃ f : Int → Int → Int, ∀ a b, f a b = (Int32.ofInt a / Int32.ofInt b).toInt := ⟨_, fun _ _ => rfl⟩
noncomputable def mDiv : Int → Int → Int := mDiv_ex.choose
theorem mDiv_def (a b : Int) : mDiv a b = (Int32.ofInt a / Int32.ofInt b).toInt := mDiv_ex.choose_spec a b
theorem mRem_ex : ∃ f : Int → Int → Int, ∀ a b, f a b = (Int32.ofInt a - Int32.ofInt a / Int32.ofInt b * Int32.ofInt b).toInt := ⟨_, fun _ _ => rfl⟩
noncomputable def mRem : Int → Int → Int := mRem_ex.choose
theorem mRem_def (a b : Int) : mRem a b = (Int32.ofInt a - Int32.ofInt a / Int32.ofInt b * Int32.ofInt b).toInt := mRem_ex.choose_spec a b
noncomputable def mI2 : Nat → Int → Int → Int
  | 0 => mAdd
  | 1 => mSub
  | 2 => mMul
  | 3 => mAnd
  | 4 => mOr
  | 5 => mXor
  | 6 => mShl
  | 7 => mShr
  | _ => mUshr
-- long arithmetic
theorem nAdd_ex : ∃ f : Int → Int → Int, ∀ a b, f a b = (Int64.ofInt a + Int64.ofInt b).toInt := ⟨_, fun _ _ => rfl⟩
noncomputable def nAdd : Int → Int → Int := nAdd_ex.choose
theorem nAdd_def (a b : Int) : nAdd a b = (Int64.ofInt a + Int64.ofInt b).toInt := nAdd_ex.choose_spec a b
theorem nSub_ex : ∃ f : Int → Int → Int, ∀ a b, f a b = (Int64.ofInt a - Int64.ofInt b).toInt := ⟨_, fun _ _ => rfl⟩
noncomputable def nSub : Int → Int → Int := nSub_ex.choose
theorem nSub_def (a b : Int) : nSub a b = (Int64.ofInt a - Int64.ofInt b).toInt := nSub_ex.choose_spec a b
theorem nMul_ex : ∃ f : Int → Int → Int, ∀ a b, f a b = (Int64.ofInt a * Int64.ofInt b).toInt := ⟨_, fun _ _ => rfl⟩
noncomputable def nMul : Int → Int → Int := nMul_ex.choose
theorem nMul_def (a b : Int) : nMul a b = (Int64.ofInt a * Int64.ofInt b).toInt := nMul_ex.choose_spec a b
theorem nAnd_ex : ∃ f : Int → Int → Int, ∀ a b, f a b = (Int64.ofInt a &&& Int64.ofInt b).toInt := ⟨_, fun _ _ => rfl⟩
noncomputable def nAnd : Int → Int → Int := nAnd_ex.choose
theorem nAnd_def (a b : Int) : nAnd a b = (Int64.ofInt a &&& Int64.ofInt b).toInt := nAnd_ex.choose_spec a b
theorem nOr_ex : ∃ f : Int → Int → Int, ∀ a b, f a b = (Int64.ofInt a ||| Int64.ofInt b).toInt := ⟨_, fun _ _ => rfl⟩
noncomputable def nOr : Int → Int → Int := nOr_ex.choose
theorem nOr_def (a b : Int) : nOr a b = (Int64.ofInt a ||| Int64.ofInt b).toInt := nOr_ex.choose_spec a b
theorem nXor_ex : ∃ f : Int → Int → Int, ∀ a b, f a b = (Int64.ofInt a ^^^ Int64.ofInt b).toInt := ⟨_, fun _ _ => rfl⟩
noncomputable def nXor : Int → Int → Int := nXor_ex.choose
theorem nXor_def (a b : Int) : nXor a b = (Int64.ofInt a ^^^ Int64.ofInt b).toInt := nXor_ex.choose_spec a b
theorem nDiv_ex : ∃ f : Int → Int → Int, ∀ a b, f a b = (Int64.ofInt a / Int64.ofInt b).toInt := ⟨_, fun _ _ => rfl⟩
noncomputable def nDiv : Int → Int → Int := nDiv_ex.choose
theorem nDiv_def (a b : Int) : nDiv a b = (Int64.ofInt a / Int64.ofInt b).toInt := nDiv_ex.choose_spec a b
theorem nRem_ex : ∃ f : Int → Int → Int, ∀ a b, f a b = (Int64.ofInt a - Int64.ofInt a / Int64.ofInt b * Int64.ofInt b).toInt := ⟨_, fun _ _ => rfl⟩
noncomputable def nRem : Int → Int → Int := nRem_ex.choose
theorem nRem_def (a b : Int) : nRem a b = (Int64.ofInt a - Int64.ofInt a / Int64.ofInt b * Int64.ofInt b).toInt := nRem_ex.choose_spec a b
noncomputable def nI2 : Nat → Int → Int → Int
  | 0 => nAdd
  | 1 => nSub
  | 2 => nMul
  | 3 => nAnd
  | 4 => nOr
  | _ => nXor
theorem mL2i_ex : ∃ f : Int → Int, ∀ a, f a = (Int64.ofInt a).toInt32.toInt := ⟨_, fun _ => rfl⟩
noncomputable def mL2i : Int → Int := mL2i_ex.choose
theorem mL2i_def (a : Int) : mL2i a = (Int64.ofInt a).toInt32.toInt := mL2i_ex.choose_spec a
theorem nFdiv_ex : ∃ f : Int → Int → Int, ∀ a b, f a b = (if (Int64.ofInt a ^^^ Int64.ofInt b) < 0 then (if (Int64.ofInt a / Int64.ofInt b) * Int64.ofInt b = Int64.ofInt a then Int64.ofInt a / Int64.ofInt b else (Int64.ofInt a / Int64.ofInt b) - 1) else Int64.ofInt a / Int64.ofInt b).toInt := ⟨_, fun _ _ => rfl⟩
noncomputable def nFdiv : Int → Int → Int := nFdiv_ex.choose
theorem nFdiv_def (a b : Int) : nFdiv a b = (if (Int64.ofInt a ^^^ Int64.ofInt b) < 0 then (if (Int64.ofInt a / Int64.ofInt b) * Int64.ofInt b = Int64.ofInt a then Int64.ofInt a / Int64.ofInt b else (Int64.ofInt a / Int64.ofInt b) - 1) else Int64.ofInt a / Int64.ofInt b).toInt := nFdiv_ex.choose_spec a b
def mMax (a b : Int) : Int := if a < b then b else a
def mMin (a b : Int) : Int := if b < a then b else a
def mLcmp (a b : Int) : Int := if b < a then 1 else if a = b then 0 else -1
/-- conditions: eq ne lt ge gt le -/
def mmCd : Nat → Int → Int → Prop
  | 0, a, b => a = b
  | 1, a, b => a ≠ b
  | 2, a, b => a < b
  | 3, a, b => b ≤ a
  | 4, a, b => b < a
  | _, a, b => a ≤ b
-- locals
def mmUn (ls : List mmV) (i : Nat) : List mmV := match i with
  | 0 => ls
  | j + 1 => bif Nat.beq (ls.getD j (0, 0)).1 2 then ls.set j (0, 0) else ls
def mmSt (ls : List mmV) (i t : Nat) (x : Int) : List mmV := bif Nat.beq t 2 then ((mmUn ls i).set i (t, x)).set (i + 1) (0, 0) else (mmUn ls i).set i (t, x)
def mmFits (ls : List mmV) (i t : Nat) : Bool := bif Nat.beq t 2 then Nat.blt (i + 1) ls.length else Nat.blt i ls.length
/-- the kinds of array: 0 int, 1 long, 2 char, 3 boolean, 4 int[], 5 references -/
def mmEt : Nat → Nat
  | 1 => 2
  | 4 => 3
  | 5 => 3
  | _ => 1
def mmFitE (sh : Int → Nat × Nat) (k : Nat) (x : Int) : Bool := match k with
  | 2 => decide (0 ≤ x ∧ x < 65536)
  | 3 => decide (x = 0 ∨ x = 1)
  | 5 => Nat.beq (sh x).1 4
  | _ => true
/-- the arguments of a call, by their tags, the last one first -/
def mmPop : List Nat → List mmV → List Int → Option (List Int × List mmV)
  | [], st, acc => some (acc, st)
  | t :: ts, v :: st, acc => bif Nat.beq v.1 t then mmPop ts st (v.2 :: acc) else none
  | _ :: _, [], _ => none
def mmCat (st : List mmV) : Nat := st.foldr (fun v n => (bif Nat.beq v.1 2 then 2 else 1) + n) 0
def mmPush (t : Nat) (x : Int) (st : List mmV) : List mmV := bif Nat.beq t 0 then st else (t, x) :: st
def mmTsw (x : Int) : Int → List Int → (Nat → Prop) → Prop
  | _, [], _ => True
  | lo, t :: ts, F => (x = lo → F t.toNat) ∧ mmTsw x (lo + 1) ts F
def mmLsw (x : Int) : List Int → (Nat → Prop) → Prop → Prop
  | k :: t :: r, F, D => (x = k → F t.toNat) ∧ (¬ x = k → mmLsw x r F D)
  | _, _, D => D
/-- a call's data: the tags of its arguments, the last one first; the answer's tag (0 none, 1 int, 2 long, 3 reference, 4 an int that is 0 or 1); the receiver's kind (99: static); cells and slots that it makes; whose cells it may write: 0 all, 1 the one side, 2 the other side, 3 none -/
abbrev mmM : Type := List Nat × Nat × Nat × Nat × Nat × Nat
section MM
variable (sh : Int → Nat × Nat) (tg : Nat → Nat → Nat)
-- what a slot holds once and for all, where that is known
variable (fc : Int → Int → Option Int) (wn : Int → Bool) (mp : Nat → mmM)
variable (K : Nat → List Int → mmH → (Int → mmH → Prop) → Prop) (Q : Int → mmH → Prop) (X : Nat → mmKont)
-- how many cells and slots the method has made so far, and may make
variable (n0 z0 mc ms : Int)
def oPush (t : Nat) (c : Int) (k : mmKont) : mmKont := fun ls st h => k ls ((t, c) :: st) h
def oLoad (i t : Nat) (k : mmKont) : mmKont := fun ls st h => mmG (Nat.beq (ls.getD i (0, 0)).1 t && Nat.blt 0 t) (k ls ((t, (ls.getD i (0, 0)).2) :: st) h)
def oStore (i t : Nat) (k : mmKont) : mmKont := fun ls st h => match st with
  | [] => False
  | v :: r => mmG (Nat.beq v.1 t && mmFits ls i t) (k (mmSt ls i t v.2) r h)
noncomputable def oIinc (i : Nat) (c : Int) (k : mmKont) : mmKont := fun ls st h => mmG (Nat.beq (ls.getD i (0, 0)).1 1 && mmFits ls i 1) (k (mmSt ls i 1 (mAdd (ls.getD i (0, 0)).2 c)) st h)
noncomputable def oI2 (f : Nat) (k : mmKont) : mmKont := fun ls st h => match st with
  | b :: a :: r => mmG (Nat.beq b.1 1 && Nat.beq a.1 1) (k ls ((1, mI2 f a.2 b.2) :: r) h)
  | _ => False
noncomputable def oL2 (f : Nat) (k : mmKont) : mmKont := fun ls st h => match st with
  | b :: a :: r => mmG (Nat.beq b.1 2 && Nat.beq a.1 2) (k ls ((2, nI2 f a.2 b.2) :: r) h)
  | _ => False
noncomputable def oDv (f : Nat) (k : mmKont) : mmKont := fun ls st h => match st with
  | b :: a :: r => match f with
    | 0 => mmG (Nat.beq b.1 1 && Nat.beq a.1 1) (mmD (b.2 ≠ 0) inferInstance (k ls ((1, mDiv a.2 b.2) :: r) h))
    | 1 => mmG (Nat.beq b.1 1 && Nat.beq a.1 1) (mmD (b.2 ≠ 0) inferInstance (k ls ((1, mRem a.2 b.2) :: r) h))
    | 2 => mmG (Nat.beq b.1 2 && Nat.beq a.1 2) (mmD (b.2 ≠ 0) inferInstance (k ls ((2, nDiv a.2 b.2) :: r) h))
    | _ => mmG (Nat.beq b.1 2 && Nat.beq a.1 2) (mmD (b.2 ≠ 0) inferInstance (k ls ((2, nRem a.2 b.2) :: r) h))
  | _ => False
/-- 0 i2l, 1 l2i -/
noncomputable def oCv (f : Nat) (k : mmKont) : mmKont := fun ls st h => match st with
  | a :: r => match f with
    | 0 => mmG (Nat.beq a.1 1) (k ls ((2, a.2) :: r) h)
    | _ => mmG (Nat.beq a.1 2) (k ls ((1, mL2i a.2) :: r) h)
  | _ => False
def oLcmp (k : mmKont) : mmKont := fun ls st h => match st with
  | b :: a :: r => mmG (Nat.beq b.1 2 && Nat.beq a.1 2) (k ls ((1, mLcmp a.2 b.2) :: r) h)
  | _ => False
/-- 0 dup, 1 dup2 (of two values), 2 pop -/
def oStk (f : Nat) (k : mmKont) : mmKont := fun ls st h => match f with
  | 0 => match st with
    | a :: r => mmG (!Nat.beq a.1 2) (k ls (a :: a :: r) h)
    | _ => False
  | 1 => match st with
    | a :: b :: r => mmG (!Nat.beq a.1 2 && !Nat.beq b.1 2) (k ls (a :: b :: a :: b :: r) h)
    | _ => False
  | _ => match st with
    | a :: r => mmG (!Nat.beq a.1 2) (k ls r h)
    | _ => False
def oGet (ci s : Nat) (k : mmKont) : mmKont := fun ls st h => match st with
  | v :: r => mmG (Nat.beq v.1 3) (mmG (Nat.beq (sh v.2).1 ci) (k ls ((tg ci s, (fc v.2 s).getD (h v.2 s)) :: r) h))
  | _ => False
def oPut (ci s : Nat) (k : mmKont) : mmKont := fun ls st h => match st with
  | w :: v :: r => mmG (Nat.beq w.1 (tg ci s) && Nat.beq v.1 3) (mmG (Nat.beq (sh v.2).1 ci && (wn v.2 && (fc v.2 s).isNone)) (k ls r (mmS h v.2 s w.2)))
  | _ => False
def oAld (kd : Nat) (k : mmKont) : mmKont := fun ls st h => match st with
  | i :: a :: r => mmG (Nat.beq i.1 1 && Nat.beq a.1 3) (mmG (Nat.beq (sh a.2).1 (100 + kd)) (mmD (0 ≤ i.2 ∧ i.2 < (sh a.2).2) inferInstance (k ls ((mmEt kd, (fc a.2 i.2).getD (h a.2 i.2)) :: r) h)))
  | _ => False
def oAst (kd : Nat) (k : mmKont) : mmKont := fun ls st h => match st with
  | x :: i :: a :: r => mmG (Nat.beq x.1 (mmEt kd) && (Nat.beq i.1 1 && Nat.beq a.1 3)) (mmG (Nat.beq (sh a.2).1 (100 + kd) && (wn a.2 && (fc a.2 i.2).isNone)) (mmD (0 ≤ i.2 ∧ i.2 < (sh a.2).2) inferInstance (mmG (mmFitE sh kd x.2) (k ls r (mmS h a.2 i.2 x.2)))))
  | _ => False
def oLen (k : mmKont) : mmKont := fun ls st h => match st with
  | a :: r => mmG (Nat.beq a.1 3) (mmG (Nat.ble 100 (sh a.2).1) (k ls ((1, ((sh a.2).2 : Int)) :: r) h))
  | _ => False
def oIf (cd b : Nat) (k : mmKont) : mmKont := fun ls st h => match st with
  | a :: r => mmG (Nat.beq a.1 1) ((mmCd cd a.2 0 → X b ls r h) ∧ (¬ mmCd cd a.2 0 → k ls r h))
  | _ => False
def oIcmp (cd b : Nat) (k : mmKont) : mmKont := fun ls st h => match st with
  | y :: x :: r => mmG (Nat.beq y.1 1 && Nat.beq x.1 1) ((mmCd cd x.2 y.2 → X b ls r h) ∧ (¬ mmCd cd x.2 y.2 → k ls r h))
  | _ => False
def oTsw (lo : Int) (l : List Int) : mmKont := fun ls st h => match st with
  | a :: r => match l with
    | d :: ts => mmG (Nat.beq a.1 1) (mmTsw a.2 lo ts (fun b => X b ls r h) ∧ ((a.2 < lo ∨ lo + (ts.length : Int) ≤ a.2) → X d.toNat ls r h))
    | _ => False
  | _ => False
def oLsw (l : List Int) : mmKont := fun ls st h => match st with
  | a :: r => match l with
    | d :: ts => mmG (Nat.beq a.1 1) (mmLsw a.2 ts (fun b => X b ls r h) (X d.toNat ls r h))
    | _ => False
  | _ => False
def oRet (t : Nat) : mmKont := fun _ st h => match t with
  | 0 => match st with
    | [] => Q 0 h
    | _ => False
  | 4 => match st with
    | [v] => mmG (Nat.beq v.1 1) (mmD (v.2 = 0 ∨ v.2 = 1) inferInstance (Q v.2 h))
    | _ => False
  | t => match st with
    | [v] => mmG (Nat.beq v.1 t) (Q v.2 h)
    | _ => False
/-- the answer's tag on the caller's stack -/
def mmRt (t : Nat) : Nat := bif Nat.beq t 4 then 1 else t
def oCall (mi : Nat) (k : mmKont) : mmKont := fun ls st h => match mmPop (mp mi).1 st [] with
  | none => False
  | some q => mmG (Nat.ble (mmCat q.2) 8) (mmG (Nat.beq (mp mi).2.2.1 99 || Nat.beq (sh (q.1.headD 0)).1 (mp mi).2.2.1) (mmG ((Nat.beq (mp mi).2.2.2.1 0 && Nat.beq (mp mi).2.2.2.2.1 0) || decide (h 0 0 - n0 + ((mp mi).2.2.2.1 : Int) ≤ mc ∧ h 0 1 - z0 + ((mp mi).2.2.2.2.1 : Int) ≤ ms))
      (K mi q.1 h (fun x h' => k ls (mmPush (mmRt (mp mi).2.1) x q.2) h'))))
/-- the next cell, blank -/
def mmZ (h : mmH) : mmH := fun a b => if a = h 0 0 then 0 else h a b
/-- an object of kind ci is made: the next cell -/
def oNew (ci : Nat) (k : mmKont) : mmKont := fun ls st h =>
  ((sh (h 0 0)).1 = ci ∧ (sh (h 0 0)).2 < 1000) ∧ (h 0 0 - n0 + 1 ≤ mc ∧ h 0 1 - z0 + ((sh (h 0 0)).2 : Int) ≤ ms) ∧
    k ls ((3, h 0 0) :: st) (mmS (mmS (mmZ h) 0 0 (h 0 0 + 1)) 0 1 (h 0 1 + ((sh (h 0 0)).2 : Int)))
def oNewA (kd : Nat) (k : mmKont) : mmKont := fun ls st h => match st with
  | a :: r => mmG (Nat.beq a.1 1) (((sh (h 0 0)).1 = 100 + kd ∧ ((sh (h 0 0)).2 : Int) = a.2 ∧ a.2 < 65536) ∧ (h 0 0 - n0 + 1 ≤ mc ∧ h 0 1 - z0 + a.2 ≤ ms) ∧
    k ls ((3, h 0 0) :: r) (mmS (mmS (mmZ h) 0 0 (h 0 0 + 1)) 0 1 (h 0 1 + a.2)))
  | _ => False
/-- new int[n][m]: the outer one's cells hold the numbers of the next n cells -/
def mmRows (h : mmH) (n : Int) : mmH := fun a b => if a = h 0 0 then (if 0 ≤ b ∧ b < n then h 0 0 + 1 + b else 0) else if h 0 0 < a ∧ a ≤ h 0 0 + n then 0 else h a b
def oNewM (k : mmKont) : mmKont := fun ls st h => match st with
  | y :: x :: r => mmG (Nat.beq y.1 1 && Nat.beq x.1 1) (((sh (h 0 0)).1 = 104 ∧ ((sh (h 0 0)).2 : Int) = x.2 ∧ x.2 < 65536) ∧ (∀ j : Nat, j < x.2.toNat → (sh (h 0 0 + 1 + j)).1 = 100 ∧ ((sh (h 0 0 + 1 + j)).2 : Int) = y.2) ∧ (0 ≤ y.2 ∧ y.2 < 65536) ∧ (h 0 0 - n0 + (1 + x.2) ≤ mc ∧ h 0 1 - z0 + (x.2 + x.2 * y.2) ≤ ms) ∧
    k ls ((3, h 0 0) :: r) (mmS (mmS (mmRows h x.2) 0 0 (h 0 0 + (1 + x.2))) 0 1 (h 0 1 + (x.2 + x.2 * y.2))))
  | _ => False
/-- System.arraycopy over int rows -/
def mmCpy (h : mmH) (a sp b dp n : Int) : mmH := fun c i => if c = b then (if dp ≤ i ∧ i < dp + n then h a (sp + (i - dp)) else h c i) else h c i
def oCpy (k : mmKont) : mmKont := fun ls st h => match st with
  | n :: dp :: b :: sp :: a :: r => mmG (Nat.beq n.1 1 && (Nat.beq dp.1 1 && (Nat.beq b.1 3 && (Nat.beq sp.1 1 && (Nat.beq a.1 3 && Nat.ble (mmCat r) 8)))))
      (mmG (Nat.beq (sh a.2).1 100 && (Nat.beq (sh b.2).1 100 && wn b.2)) (mmD ((0 ≤ sp.2 ∧ 0 ≤ dp.2 ∧ 0 ≤ n.2) ∧ (sp.2 + n.2 ≤ (sh a.2).2 ∧ dp.2 + n.2 ≤ (sh b.2).2)) inferInstance (k ls r (mmCpy h a.2 sp.2 b.2 dp.2 n.2))))
  | _ => False
def oObj (k : mmKont) : mmKont := fun ls st h => match st with
  | a :: r => mmG (Nat.beq a.1 3 && Nat.ble (mmCat r) 8) (mmD (a.2 ≠ 0) inferInstance (k ls r h))
  | _ => False
-- the script: its length L and what it holds
variable (L : Int) (xs : Int → Int)
def oSld (k : mmKont) : mmKont := fun ls st h => match st with
  | i :: a :: r => mmG (Nat.beq i.1 1 && Nat.beq a.1 4) ((0 ≤ i.2 ∧ i.2 < L) ∧ k ls ((1, xs i.2) :: r) h)
  | _ => False
def oSlen (k : mmKont) : mmKont := fun ls st h => match st with
  | a :: r => mmG (Nat.beq a.1 4) (k ls ((1, L) :: r) h)
  | _ => False
-- the text constant: its length and its characters
variable (tx : List Int)
def oTlen (k : mmKont) : mmKont := fun ls st h => match st with
  | a :: r => mmG (Nat.beq a.1 5 && Nat.ble (mmCat r) 8) (k ls ((1, (tx.length : Int)) :: r) h)
  | _ => False
def oTat (k : mmKont) : mmKont := fun ls st h => match st with
  | i :: a :: r => mmG (Nat.beq i.1 1 && (Nat.beq a.1 5 && Nat.ble (mmCat r) 8)) ((0 ≤ i.2 ∧ i.2 < tx.length) ∧ k ls ((1, tx.getD i.2.toNat 0) :: r) h)
  | _ => False
/-- the library's pure functions: 0 max, 1 min, 2 max of longs, 3 min of longs, 4 floorDiv of longs -/
noncomputable def oMath (f : Nat) (k : mmKont) : mmKont := fun ls st h => match st with
  | b :: a :: r => match f with
    | 0 => mmG (Nat.beq b.1 1 && (Nat.beq a.1 1 && Nat.ble (mmCat r) 8)) (k ls ((1, mMax a.2 b.2) :: r) h)
    | 1 => mmG (Nat.beq b.1 1 && (Nat.beq a.1 1 && Nat.ble (mmCat r) 8)) (k ls ((1, mMin a.2 b.2) :: r) h)
    | 2 => mmG (Nat.beq b.1 2 && (Nat.beq a.1 2 && Nat.ble (mmCat r) 8)) (k ls ((2, mMax a.2 b.2) :: r) h)
    | 3 => mmG (Nat.beq b.1 2 && (Nat.beq a.1 2 && Nat.ble (mmCat r) 8)) (k ls ((2, mMin a.2 b.2) :: r) h)
    | _ => mmG (Nat.beq b.1 2 && (Nat.beq a.1 2 && Nat.ble (mmCat r) 8)) (mmD (b.2 ≠ 0) inferInstance (k ls ((2, nFdiv a.2 b.2) :: r) h))
  | _ => False
/-- one op: its number, two parameters -/
noncomputable def mmStep (o : Nat) (a : Int) (l : List Int) (k : mmKont) : mmKont := match o with
  | 0 => oPush a.toNat (l.headD 0) k
  | 1 => oLoad a.toNat (l.headD 0).toNat k
  | 2 => oStore a.toNat (l.headD 0).toNat k
  | 3 => oIinc a.toNat (l.headD 0) k
  | 4 => oI2 a.toNat k
  | 5 => oL2 a.toNat k
  | 6 => oDv a.toNat k
  | 7 => oCv a.toNat k
  | 8 => oLcmp k
  | 9 => oStk a.toNat k
  | 10 => oGet sh tg fc a.toNat (l.headD 0).toNat k
  | 11 => oPut sh tg fc wn a.toNat (l.headD 0).toNat k
  | 12 => oAld sh fc a.toNat k
  | 13 => oAst sh fc wn a.toNat k
  | 14 => oLen sh k
  | 15 => oIf X a.toNat (l.headD 0).toNat k
  | 16 => oIcmp X a.toNat (l.headD 0).toNat k
  | 17 => X a.toNat
  | 18 => oTsw X a l
  | 19 => oLsw X l
  | 20 => oRet Q a.toNat
  | 21 => oCall sh mp K n0 z0 mc ms a.toNat k
  | 22 => oNew sh n0 z0 mc ms a.toNat k
  | 23 => oNewA sh n0 z0 mc ms a.toNat k
  | 24 => oNewM sh n0 z0 mc ms k
  | 25 => oCpy sh wn k
  | 26 => oObj k
  | 27 => oSld L xs k
  | 28 => oSlen L k
  | 29 => oTlen tx k
  | 30 => oTat tx k
  | 31 => oMath a.toNat k
  | _ => fun _ _ _ => False
abbrev mmOp : Type := Nat × Int × List Int
noncomputable def mmEx (ops : List mmOp) : mmKont := ops.foldr (fun op k => mmStep sh tg fc wn mp K Q X n0 z0 mc ms L xs tx op.1 op.2.1 op.2.2 k) (fun _ _ _ => False)
end MM
end
section
/-! ===== mm: what a small heap is on the machine ===== -/
section MW
variable (sh : Int → Nat × Nat) (tg : Nat → Nat → Nat) (B b g : Nat) (aC : Nat → ClassId)
def mmVal (v : mmV) : Value := match v.1 with
  | 1 => .int (Int32.ofInt v.2)
  | 2 => .long (Int64.ofInt v.2)
  | 3 => if v.2 = 0 then .null else .ref (B + v.2.toNat)
  | 4 => .ref b
  | 5 => .ref g
  | _ => .null
def mmOk (n : Int) (v : mmV) : Prop := match v.1 with
  | 1 => -2147483648 ≤ v.2 ∧ v.2 < 2147483648
  | 2 => -9223372036854775808 ≤ v.2 ∧ v.2 < 9223372036854775808
  | 3 => 0 ≤ v.2 ∧ v.2 < n
  | _ => True
def mmAr (kd : Nat) (f : Int → Int) : (Nat → Int32) ⊕ (Nat → Int64) ⊕ (Nat → UInt32) ⊕ (Nat → UInt64) ⊕ (Nat → Option Nat) := match kd with
  | 1 => .inr (.inl (fun j => Int64.ofInt (f j)))
  | 4 => .inr (.inr (.inr (.inr (fun j => if f j = 0 then none else some (B + (f j).toNat)))))
  | 5 => .inr (.inr (.inr (.inr (fun j => if f j = 0 then none else some (B + (f j).toNat)))))
  | _ => .inl (fun j => Int32.ofInt (f j))
/-- the tag of a slot -/
def mmTg (k : Int) (s : Nat) : Nat := if (sh k).1 < 100 then tg (sh k).1 s else mmEt ((sh k).1 - 100)
def mmE (k : Int) (f : Int → Int) : va_E := if (sh k).1 < 100 then .inr ((sh k).1, (List.range (sh k).2).map (fun s : Nat => mmVal B b g (tg (sh k).1 s, f s))) else .inl (aC ((sh k).1 - 100), (sh k).2, mmAr B ((sh k).1 - 100) f)
def mmWs (h : mmH) : va_W := (List.range ((h 0 0).toNat - 1)).map (fun k : Nat => (B + (k + 1), mmE sh tg B b g aC ((k : Int) + 1) (h ((k : Int) + 1))))
def mmOkH (h : mmH) : Prop := 1 ≤ h 0 0 ∧ 0 ≤ h 0 1 ∧ ∀ k : Int, 1 ≤ k → k < h 0 0 → (sh k).2 < 2147483648 ∧ ∀ s : Nat, s < (sh k).2 → mmOk (h 0 0) (mmTg sh tg k s, h k s)
def mmA (q : Nat) : Prop := B + 1 ≤ q
def mmWH (D : va_G) (cl : List vw_C) (H0 : Heap) (h : mmH) (H : Heap) (locs : List Loc) : Prop :=
  va_P D cl (mmWs sh tg B b g aC h) H ∧ H.size = B + (h 0 0).toNat ∧ va_S (mmA B) H0 H locs ∧ mmOkH sh tg h
theorem mmWs_get {h : mmH} {k : Int} (h1 : 1 ≤ k) (h2 : k < h 0 0) : (mmWs sh tg B b g aC h)[k.toNat - 1]? = some (B + k.toNat, mmE sh tg B b g aC k (h k)) := by
  unfold mmWs
  rw [List.getElem?_map, List.getElem?_range (by omega)]
  have e : ((k.toNat - 1 : Nat) : Int) + 1 = k := by omega
  simp only [Option.map_some, e]
  have e2 : k.toNat - 1 + 1 = k.toNat := by omega
  rw [e2]
theorem mmWs_len (h : mmH) : (mmWs sh tg B b g aC h).length = (h 0 0).toNat - 1 := by simp [mmWs]
theorem mmWs_set {h h' : mmH} {k : Int} (h1 : 1 ≤ k) (h2 : k < h 0 0) (hn : h' 0 0 = h 0 0) (ho : ∀ j : Int, 1 ≤ j → j ≠ k → h' j = h j) {a : Nat} (ha : a = B + k.toNat) :
    (mmWs sh tg B b g aC h).set (k.toNat - 1) (a, mmE sh tg B b g aC k (h' k)) = mmWs sh tg B b g aC h' := by
  apply List.ext_getElem?
  intro i
  by_cases hi : i = k.toNat - 1
  · subst hi
    rw [List.getElem?_set_self (by rw [mmWs_len]; omega), mmWs_get sh tg B b g aC h1 (by rw [hn]; exact h2), ha]
  · rw [List.getElem?_set_ne (Ne.symm hi)]
    by_cases hl : i < (h 0 0).toNat - 1
    · have q1 : (1 : Int) ≤ (i : Int) + 1 := by omega
      have q2 : (i : Int) + 1 < h 0 0 := by omega
      have e1 := mmWs_get sh tg B b g aC q1 q2
      have e2 := mmWs_get sh tg B b g aC (h := h') q1 (by rw [hn]; exact q2)
      have e3 : ((i : Int) + 1).toNat - 1 = i := by omega
      rw [e3] at e1 e2
      rw [e1, e2, ho _ q1 (by omega)]
    · rw [List.getElem?_eq_none (by rw [mmWs_len]; omega), List.getElem?_eq_none (by rw [mmWs_len, hn]; omega)]
theorem mmWs_D (h : mmH) : va_D (mmA B) (mmWs sh tg B b g aC h) := by
  have key : ∀ (i : Nat) (p : Nat × va_E), (mmWs sh tg B b g aC h)[i]? = some p → p.1 = B + (i + 1) := by
    intro i p hp
    unfold mmWs at hp
    rw [List.getElem?_map] at hp
    cases hr : (List.range ((h 0 0).toNat - 1))[i]? with
    | none => rw [hr] at hp; cases hp
    | some j =>
      rw [hr] at hp
      obtain ⟨hj, rfl⟩ := List.getElem?_eq_some_iff.mp hr
      simp only [Option.map_some, Option.some.injEq] at hp
      rw [← hp]
      simp
  refine ⟨fun i j p q hi hj hpq => ?_, fun k q hk => ?_⟩
  · have a1 := key i p hi
    have a2 := key j q hj
    omega
  · have a1 := key k q hk
    unfold mmA
    omega
/-- a store: the world behind it -/
theorem mmWs_put {h : mmH} {k i v : Int} (h1 : 1 ≤ k) (h2 : k < h 0 0) {a : Nat} {e : va_E} (ha : a = B + k.toNat) (he : e = mmE sh tg B b g aC k (mmS h k i v k)) :
    (mmWs sh tg B b g aC h).set (k.toNat - 1) (a, e) = mmWs sh tg B b g aC (mmS h k i v) := by
  subst he
  refine mmWs_set sh tg B b g aC h1 h2 ?_ (fun j _ hj => ?_) ha
  · exact mmS_cell (by omega)
  · funext z
    exact mmS_cell hj
theorem mmOk_mono {n n' : Int} {v : mmV} (h : mmOk n v) (hn : n ≤ n') : mmOk n' v := by
  obtain ⟨t, x⟩ := v
  match t, h with
  | 0, h => trivial
  | 1, h => exact h
  | 2, h => exact h
  | 3, h => exact ⟨h.1, Int.lt_of_lt_of_le h.2 hn⟩
  | 4, h => trivial
  | 5, h => trivial
  | t + 6, h => trivial
theorem mmOkH_put {h : mmH} {k v : Int} {i : Nat} (H : mmOkH sh tg h) (h1 : 1 ≤ k) (hv : mmOk (h 0 0) (mmTg sh tg k i, v)) : mmOkH sh tg (mmS h k i v) := by
  obtain ⟨q0, q1, q2⟩ := H
  have e0 : mmS h k i v 0 0 = h 0 0 := mmS_cell (by omega)
  have e1 : mmS h k i v 0 1 = h 0 1 := mmS_cell (by omega)
  refine ⟨by rw [e0]; exact q0, by rw [e1]; exact q1, fun a ha hb => ?_⟩
  rw [e0] at hb ⊢
  obtain ⟨p1, p2⟩ := q2 a ha hb
  refine ⟨p1, fun s hs => ?_⟩
  by_cases e : a = k
  · subst e
    rw [mmS_slot]
    by_cases e2 : (s : Int) = i
    · rw [if_pos e2]
      have : s = i := by omega
      rw [this]
      exact hv
    · rw [if_neg e2]
      exact p2 s hs
  · rw [mmS_cell e]
    exact p2 s hs
/-- the locals that are there -/
def mmLv (ls : List mmV) : List (Nat × Value) := (List.range ls.length).filterMap (fun i => if (ls.getD i (0, 0)).1 = 0 then none else some (i, mmVal B b g (ls.getD i (0, 0))))
theorem mmLv_in {ls : List mmV} {i : Nat} {w : Value} : (i, w) ∈ mmLv B b g ls ↔ i < ls.length ∧ (ls.getD i (0, 0)).1 ≠ 0 ∧ w = mmVal B b g (ls.getD i (0, 0)) := by
  unfold mmLv
  rw [List.mem_filterMap]
  constructor
  · rintro ⟨j, hj, h⟩
    rw [List.mem_range] at hj
    by_cases e : (ls.getD j (0, 0)).1 = 0
    · rw [if_pos e] at h; cases h
    · rw [if_neg e] at h
      obtain ⟨rfl, rfl⟩ := Prod.mk.inj (Option.some.inj h)
      exact ⟨hj, e, rfl⟩
  · rintro ⟨h1, h2, rfl⟩
    exact ⟨i, List.mem_range.mpr h1, by rw [if_neg h2]⟩
theorem mmLv_get {ls : List mmV} {lsA : Array Slot} {nL i t : Nat} (h : lv_has lsA nL (mmLv B b g ls)) (ht : (ls.getD i (0, 0)).1 = t) (h0 : 0 < t) : lsA[i]? = some (.val (mmVal B b g (t, (ls.getD i (0, 0)).2))) := by
  have hi : i < ls.length := by
    apply Classical.byContradiction
    intro hn
    rw [List.getD_eq_getElem?_getD, List.getElem?_eq_none (by omega)] at ht
    simp at ht
    omega
  have := h.2.2 (i, mmVal B b g (ls.getD i (0, 0))) ((mmLv_in B b g).mpr ⟨hi, by omega, rfl⟩)
  rw [← ht]
  exact this
theorem mmVal_cat {v : mmV} : (mmVal B b g v).category = if v.1 = 2 then 2 else 1 := by
  obtain ⟨t, x⟩ := v
  match t with
  | 0 => rfl
  | 1 => rfl
  | 2 => rfl
  | 3 => by_cases e : x = 0 <;> simp [mmVal, e, Value.category]
  | 4 => rfl
  | 5 => rfl
  | t + 6 => simp [mmVal, Value.category]
theorem lv_less {lsA : Array Slot} {nL : Nat} {l l' : List (Nat × Value)} (h : lv_has lsA nL l) (hl : ∀ q ∈ l', q ∈ l) : lv_has lsA nL l' := ⟨h.1, h.2.1, fun q hq => h.2.2 q (hl q hq)⟩
theorem mmUn_len (ls : List mmV) (i : Nat) : (mmUn ls i).length = ls.length := by
  unfold mmUn
  cases i with
  | zero => rfl
  | succ j => simp only []; cases Nat.beq (ls.getD j (0, 0)).1 2 <;> simp
theorem mmSt_len (ls : List mmV) (i t : Nat) (x : Int) : (mmSt ls i t x).length = ls.length := by
  unfold mmSt
  cases Nat.beq t 2 <;> simp [mmUn_len]
/-- what stands in another local behind a store -/
theorem mmUn_at {ls : List mmV} {i j : Nat} (h : ((mmUn ls i).getD j (0, 0)).1 ≠ 0) : (mmUn ls i).getD j (0, 0) = ls.getD j (0, 0) ∧ ¬ (j + 1 = i ∧ (ls.getD j (0, 0)).1 = 2) := by
  cases i with
  | zero => exact ⟨rfl, by omega⟩
  | succ k =>
    unfold mmUn at h ⊢
    simp only [] at h ⊢
    cases e : Nat.beq (ls.getD k (0, 0)).1 2 with
    | false =>
      rw [e] at h
      simp only [cond_false] at h ⊢
      refine ⟨by trivial, fun q => ?_⟩
      have : j = k := by omega
      subst this
      rw [q.2] at e
      cases e
    | true =>
      rw [e] at h
      simp only [cond_true] at h ⊢
      by_cases hk : j = k
      · subst hk
        exfalso
        apply h
        rw [List.getD_eq_getElem?_getD, List.getElem?_set]
        simp
        split <;> rfl
      · rw [List.getD_eq_getElem?_getD, List.getElem?_set_ne (Ne.symm hk), ← List.getD_eq_getElem?_getD]
        exact ⟨rfl, by omega⟩
theorem mm_beq {a b : Nat} (h : Nat.beq a b = true) : a = b := Nat.eq_of_beq_eq_true h
theorem mm_blt {a b : Nat} (h : Nat.blt a b = true) : a < b := by
  unfold Nat.blt at h
  exact Nat.le_of_ble_eq_true h
theorem mm_ble {a b : Nat} (h : Nat.ble a b = true) : a ≤ b := Nat.le_of_ble_eq_true h
theorem getD_set_self {ls : List mmV} {i : Nat} {v : mmV} (h : i < ls.length) : (ls.set i v).getD i (0, 0) = v := by
  rw [List.getD_eq_getElem?_getD, List.getElem?_set_self h]
  rfl
theorem getD_set_ne {ls : List mmV} {i j : Nat} {v : mmV} (h : j ≠ i) : (ls.set i v).getD j (0, 0) = ls.getD j (0, 0) := by
  rw [List.getD_eq_getElem?_getD, List.getElem?_set_ne (Ne.symm h), ← List.getD_eq_getElem?_getD]
/-- a store of one word -/
theorem mmLv_st1 {ls : List mmV} {lsA : Array Slot} {nL i t : Nat} {x : Int} (ht : t ≠ 2) (hf : mmFits ls i t = true)
    (h : lv_has lsA nL ((i, mmVal B b g (t, x)) :: (mmLv B b g ls).filter (fun q => !(q.1 == i) && !(q.1 + 1 == i && q.2.category == 2)))) : lv_has lsA nL (mmLv B b g (mmSt ls i t x)) := by
  have hb : Nat.beq t 2 = false := by
    cases e : Nat.beq t 2 with
    | false => rfl
    | true => exact absurd (mm_beq e) ht
  have hl : i < ls.length := by
    unfold mmFits at hf
    rw [hb] at hf
    exact mm_blt hf
  refine lv_less h fun q hq => ?_
  obtain ⟨j, w⟩ := q
  obtain ⟨h1, h2, rfl⟩ := (mmLv_in B b g).mp hq
  rw [mmSt_len] at h1
  have e : mmSt ls i t x = (mmUn ls i).set i (t, x) := by
    unfold mmSt
    rw [hb]
    rfl
  rw [e] at h2 ⊢
  by_cases hj : j = i
  · subst hj
    rw [getD_set_self (by rw [mmUn_len]; exact hl)]
    exact List.mem_cons_self
  · rw [getD_set_ne hj] at h2 ⊢
    obtain ⟨e1, e2⟩ := mmUn_at h2
    rw [e1] at h2 ⊢
    refine List.mem_cons_of_mem _ (List.mem_filter.mpr ⟨(mmLv_in B b g).mpr ⟨h1, h2, rfl⟩, ?_⟩)
    simp only [mmVal_cat]
    by_cases c1 : j + 1 = i
    · have c2 : ¬ (ls.getD j (0, 0)).1 = 2 := fun q => e2 ⟨c1, q⟩
      simp [hj]; exact Or.inr (by simpa using c2)
    · simp [hj, c1]
/-- a store of two words -/
theorem mmLv_st2 {ls : List mmV} {lsA : Array Slot} {nL i : Nat} {x : Int} (hf : mmFits ls i 2 = true)
    (h : lv_has lsA nL ((i, mmVal B b g (2, x)) :: (mmLv B b g ls).filter (fun q => !(q.1 == i) && (!(q.1 == i + 1) && !(q.1 + 1 == i && q.2.category == 2))))) : lv_has lsA nL (mmLv B b g (mmSt ls i 2 x)) := by
  have hl : i + 1 < ls.length := mm_blt hf
  refine lv_less h fun q hq => ?_
  obtain ⟨j, w⟩ := q
  obtain ⟨h1, h2, rfl⟩ := (mmLv_in B b g).mp hq
  rw [mmSt_len] at h1
  have e : mmSt ls i 2 x = ((mmUn ls i).set i (2, x)).set (i + 1) (0, 0) := rfl
  rw [e] at h2 ⊢
  by_cases hj1 : j = i + 1
  · subst hj1
    rw [getD_set_self (by rw [List.length_set, mmUn_len]; exact hl)] at h2
    exact absurd rfl h2
  rw [getD_set_ne hj1] at h2 ⊢
  by_cases hj : j = i
  · subst hj
    rw [getD_set_self (by rw [mmUn_len]; omega)]
    exact List.mem_cons_self
  · rw [getD_set_ne hj] at h2 ⊢
    obtain ⟨e1, e2⟩ := mmUn_at h2
    rw [e1] at h2 ⊢
    refine List.mem_cons_of_mem _ (List.mem_filter.mpr ⟨(mmLv_in B b g).mpr ⟨h1, h2, rfl⟩, ?_⟩)
    simp only [mmVal_cat]
    by_cases c1 : j + 1 = i
    · have c2 : ¬ (ls.getD j (0, 0)).1 = 2 := fun q => e2 ⟨c1, q⟩
      simp [hj, hj1]; exact Or.inr (by simpa using c2)
    · simp [hj, hj1, c1]
theorem mmSt_ok {n : Int} {ls : List mmV} {i t : Nat} {x : Int} (h : ∀ v ∈ ls, mmOk n v) (hv : mmOk n (t, x)) : ∀ v ∈ mmSt ls i t x, mmOk n v := by
  have hs : ∀ (l : List mmV) (j : Nat) (w : mmV), (∀ v ∈ l, mmOk n v) → mmOk n w → ∀ v ∈ l.set j w, mmOk n v := by
    intro l j w hl hw v hv
    rcases List.mem_or_eq_of_mem_set hv with q | q
    · exact hl v q
    · rw [q]; exact hw
  have hu : ∀ v ∈ mmUn ls i, mmOk n v := by
    unfold mmUn
    cases i with
    | zero => exact h
    | succ j =>
      simp only []
      cases Nat.beq (ls.getD j (0, 0)).1 2 with
      | false => exact h
      | true => exact hs _ _ _ h trivial
  unfold mmSt
  cases Nat.beq t 2 with
  | false => exact hs _ _ _ hu hv
  | true => exact hs _ _ _ (hs _ _ _ hu hv) trivial
theorem mm_getD_ok {n : Int} {ls : List mmV} {i : Nat} (h : ∀ v ∈ ls, mmOk n v) : mmOk n (ls.getD i (0, 0)) := by
  by_cases hi : i < ls.length
  · rw [List.getD_eq_getElem?_getD, List.getElem?_eq_getElem hi]
    exact h _ (List.getElem_mem hi)
  · rw [List.getD_eq_getElem?_getD, List.getElem?_eq_none (by omega)]
    trivial
-- numbers
theorem mm_o32 (x : Int32) : Int32.ofInt x.toInt = x := Int32.ofInt_toInt x
theorem mm_o64 (x : Int64) : Int64.ofInt x.toInt = x := Int64.ofInt_toInt x
theorem mm_t32 {x : Int} (h1 : -2147483648 ≤ x) (h2 : x < 2147483648) : (Int32.ofInt x).toInt = x := Int32.toInt_ofInt_of_le h1 h2
theorem mm_t64 {x : Int} (h1 : -9223372036854775808 ≤ x) (h2 : x < 9223372036854775808) : (Int64.ofInt x).toInt = x := Int64.toInt_ofInt_of_le h1 h2
theorem mm_r32 (x : Int32) : -2147483648 ≤ x.toInt ∧ x.toInt < 2147483648 := ⟨Int32.le_toInt x, Int32.toInt_lt x⟩
theorem mm_r64 (x : Int64) : -9223372036854775808 ≤ x.toInt ∧ x.toInt < 9223372036854775808 := ⟨Int64.le_toInt x, Int64.toInt_lt x⟩
theorem mm_cl {x : Int} (h1 : 0 ≤ x) (h2 : x < 2147483648) : (Int32.ofInt x).toNatClampNeg = x.toNat := by
  show (Int32.ofInt x).toInt.toNat = x.toNat
  rw [mm_t32 (by omega) h2]
theorem mm_in {x : Int} {n : Nat} (h1 : 0 ≤ x) (h2 : x < n) (hn : n < 2147483648) : vp_in (Int32.ofInt x) n := by
  rw [vp_in_iff, mm_t32 (by omega) (by omega)]
  exact ⟨h1, h2⟩
end MW
end
section
/-! ===== mm: one op is one step of the machine ===== -/
/-- a point of a walk: locals, stack, heap -/
def mmIn (sh : Int → Nat × Nat) (tg : Nat → Nat → Nat) (B b g : Nat) (aC : Nat → ClassId) (R : Room) (H0 : Heap) (D : va_G) (cl : List vw_C) (nL n0 z0 : Nat) (ls st : List mmV) (h : mmH) (H : Heap) (locs : List Loc) (lsA : Array Slot) : Prop :=
  lv_has lsA nL (mmLv B b g ls) ∧ ls.length = nL ∧ (∀ v ∈ ls, mmOk (h 0 0) v) ∧ (∀ v ∈ st, mmOk (h 0 0) v) ∧ mmWH sh tg B b g aC D cl H0 h H locs ∧ (n0 : Int) ≤ h 0 0 ∧ (z0 : Int) ≤ h 0 1 ∧ (h 0 0).toNat - n0 ≤ R.cells ∧ (h 0 1).toNat - z0 ≤ R.slots
def mmKS (sh : Int → Nat × Nat) (tg : Nat → Nat → Nat) (B b g : Nat) (aC : Nat → ClassId) (p : Program) (l : Launch) (e : Env) (R : Room) (s : State) (m : MethodId) (args : Array Value) (below : List Frame) (meth : Method) (c : Code) (H0 : Heap) (D : va_G) (cl : List vw_C) (nL n0 z0 : Nat) (Qm : State → Prop) (pc : Nat) (k : mmKont) : Prop :=
  ∀ (ls st : List mmV) (h : mmH) (H : Heap) (locs : List Loc) (lsA : Array Slot), k ls st h → mmIn sh tg B b g aC R H0 D cl nL n0 z0 ls st h H locs lsA →
    W p l e R s m args below meth c H locs ((h 0 0).toNat - n0) ((h 0 1).toNat - z0) Qm (F0 m pc lsA (st.map (mmVal B b g)))
section MR
variable {sh : Int → Nat × Nat} {tg : Nat → Nat → Nat} {B b g : Nat} {aC : Nat → ClassId} {p : Program} {l : Launch} {e : Env} {R : Room} {s : State} {m : MethodId} {args : Array Value} {below : List Frame} {meth : Method} {c : Code} {H0 : Heap} {D : va_G} {cl : List vw_C} {nL n0 z0 : Nat} {Qm : State → Prop}
theorem mmIn.stk {ls st st' : List mmV} {h : mmH} {H : Heap} {locs : List Loc} {lsA : Array Slot} (hA : mmIn sh tg B b g aC R H0 D cl nL n0 z0 ls st h H locs lsA) (hs : ∀ v ∈ st', mmOk (h 0 0) v) : mmIn sh tg B b g aC R H0 D cl nL n0 z0 ls st' h H locs lsA := ⟨hA.1, hA.2.1, hA.2.2.1, hs, hA.2.2.2.2⟩
theorem mm_cons {n : Int} {v : mmV} {st : List mmV} (h1 : mmOk n v) (h2 : ∀ w ∈ st, mmOk n w) : ∀ w ∈ v :: st, mmOk n w := fun w hw => by
  rcases List.mem_cons.mp hw with q | q
  · rw [q]; exact h1
  · exact h2 w q
theorem mm_tail {n : Int} {v : mmV} {st : List mmV} (h : ∀ w ∈ v :: st, mmOk n w) : ∀ w ∈ st, mmOk n w := fun w hw => h w (List.mem_cons_of_mem _ hw)
theorem mm_head {n : Int} {v : mmV} {st : List mmV} (h : ∀ w ∈ v :: st, mmOk n w) : mmOk n v := h v List.mem_cons_self
theorem mm_ok1 {n : Int} (x : Int32) : mmOk n (1, x.toInt) := mm_r32 x
theorem mm_ok2 {n : Int} (x : Int64) : mmOk n (2, x.toInt) := mm_r64 x
variable {pc : Nat} {k : mmKont} {cc : ByteArray}
/-- an int that isn't changed by what stands on it -/
theorem ks_push1 (hx : p.tables.exec = Jvm.exec) (hb : c.code = cc) {i : Int} {x : Int} {len : Nat} (hr : -2147483648 ≤ x ∧ x < 2147483648)
    (hd : (decode cc pc = .ok (.iconst i, 1) ∧ len = 1 ∧ Int32.ofInt i = Int32.ofInt x) ∨ (decode cc pc = .ok (.bipush i, 2) ∧ len = 2 ∧ (Int8.ofInt i).toInt32 = Int32.ofInt x) ∨ (decode cc pc = .ok (.sipush i, 3) ∧ len = 3 ∧ (Int16.ofInt i).toInt32 = Int32.ofInt x))
    (hk : mmKS sh tg B b g aC p l e R s m args below meth c H0 D cl nL n0 z0 Qm (pc + len) k) : mmKS sh tg B b g aC p l e R s m args below meth c H0 D cl nL n0 z0 Qm pc (oPush 1 x k) := by
  intro ls st h H locs lsA hp hA
  have h2 := hk ls ((1, x) :: st) h H locs lsA hp (hA.stk (mm_cons hr hA.2.2.2.1))
  rcases hd with ⟨hd, rfl, hv⟩ | ⟨hd, rfl, hv⟩ | ⟨hd, rfl, hv⟩
  · exact lv_iconst hx hb hd hv h2
  · exact lv_bipush hx hb hd hv h2
  · exact lv_sipush hx hb hd hv h2
theorem ks_ldc (hx : p.tables.exec = Jvm.exec) (hb : c.code = cc) {own : String} {idx : Nat} {x : Int} (hr : -2147483648 ≤ x ∧ x < 2147483648) (hown : s.vm.findClass own = some m.cls) (hc : (Jvm.Cond.constant own idx (Int32.ofInt x)).before args s = true)
    (hd : decode cc pc = .ok (.ldc idx, 2)) (hk : mmKS sh tg B b g aC p l e R s m args below meth c H0 D cl nL n0 z0 Qm (pc + 2) k) : mmKS sh tg B b g aC p l e R s m args below meth c H0 D cl nL n0 z0 Qm pc (oPush 1 x k) := by
  intro ls st h H locs lsA hp hA
  exact lv_ldc hx hb hown hc hd (hk ls ((1, x) :: st) h H locs lsA hp (hA.stk (mm_cons hr hA.2.2.2.1)))
theorem ks_ldcw (hx : p.tables.exec = Jvm.exec) (hb : c.code = cc) {own : String} {idx : Nat} {x : Int} (hr : -2147483648 ≤ x ∧ x < 2147483648) (hown : s.vm.findClass own = some m.cls) (hc : (Jvm.Cond.constant own idx (Int32.ofInt x)).before args s = true)
    (hd : decode cc pc = .ok (.ldc_w idx, 3)) (hk : mmKS sh tg B b g aC p l e R s m args below meth c H0 D cl nL n0 z0 Qm (pc + 3) k) : mmKS sh tg B b g aC p l e R s m args below meth c H0 D cl nL n0 z0 Qm pc (oPush 1 x k) := by
  intro ls st h H locs lsA hp hA
  exact lv_ldcw hx hb hown hc hd (hk ls ((1, x) :: st) h H locs lsA hp (hA.stk (mm_cons hr hA.2.2.2.1)))
theorem ks_ldc2 (hx : p.tables.exec = Jvm.exec) (hb : c.code = cc) {own : String} {idx : Nat} {x : Int} (hr : -9223372036854775808 ≤ x ∧ x < 9223372036854775808) (hown : s.vm.findClass own = some m.cls) (hc : (Jvm.Cond.constantLong own idx (Int64.ofInt x)).before args s = true)
    (hd : decode cc pc = .ok (.ldc2_w idx, 3)) (hk : mmKS sh tg B b g aC p l e R s m args below meth c H0 D cl nL n0 z0 Qm (pc + 3) k) : mmKS sh tg B b g aC p l e R s m args below meth c H0 D cl nL n0 z0 Qm pc (oPush 2 x k) := by
  intro ls st h H locs lsA hp hA
  exact lv_ldc2 hx hb hown hc hd (hk ls ((2, x) :: st) h H locs lsA hp (hA.stk (mm_cons hr hA.2.2.2.1)))
theorem ks_lconst (hx : p.tables.exec = Jvm.exec) (hb : c.code = cc) {i : Fin 2} {x : Int} (hr : x = (i.val : Int)) (hd : decode cc pc = .ok (.lconst i, 1)) (hk : mmKS sh tg B b g aC p l e R s m args below meth c H0 D cl nL n0 z0 Qm (pc + 1) k) : mmKS sh tg B b g aC p l e R s m args below meth c H0 D cl nL n0 z0 Qm pc (oPush 2 x k) := by
  intro ls st h H locs lsA hp hA
  have hi := i.isLt
  have hr2 : -9223372036854775808 ≤ x ∧ x < 9223372036854775808 := by omega
  refine lv_lconst hx hb hd ?_ (hk ls ((2, x) :: st) h H locs lsA hp (hA.stk (mm_cons hr2 hA.2.2.2.1)))
  rw [hr]
  exact Int64.ofInt_eq_ofNat.symm
theorem ks_load (hx : p.tables.exec = Jvm.exec) (hb : c.code = cc) {i t len : Nat}
    (hd : (t = 1 ∧ ((∃ q : Fin 4, decode cc pc = .ok (.iload_n q, 1) ∧ q.val = i ∧ len = 1) ∨ (decode cc pc = .ok (.iload i, 2) ∧ len = 2))) ∨ (t = 2 ∧ ((∃ q : Fin 4, decode cc pc = .ok (.lload_n q, 1) ∧ q.val = i ∧ len = 1) ∨ (decode cc pc = .ok (.lload i, 2) ∧ len = 2))))
    (hk : mmKS sh tg B b g aC p l e R s m args below meth c H0 D cl nL n0 z0 Qm (pc + len) k) : mmKS sh tg B b g aC p l e R s m args below meth c H0 D cl nL n0 z0 Qm pc (oLoad i t k) := by
  intro ls st h H locs lsA hp hA
  obtain ⟨ht, hp⟩ := mmG_iff.mp hp
  simp only [Bool.and_eq_true] at ht
  have e1 := mm_beq ht.1
  have hg := mmLv_get B b g hA.1 e1 (mm_blt ht.2)
  have hok : mmOk (h 0 0) (t, (ls.getD i (0, 0)).2) := by
    have := mm_getD_ok (i := i) hA.2.2.1
    rw [← e1]
    exact this
  have h2 := hk ls ((t, (ls.getD i (0, 0)).2) :: st) h H locs lsA hp (hA.stk (mm_cons hok hA.2.2.2.1))
  rcases hd with ⟨rfl, hd⟩ | ⟨rfl, hd⟩
  · rcases hd with ⟨q, hd, rfl, rfl⟩ | ⟨hd, rfl⟩
    · exact lv_iload_n hx hb hd rfl hg h2
    · exact lv_iload hx hb hd hg h2
  · rcases hd with ⟨q, hd, rfl, rfl⟩ | ⟨hd, rfl⟩
    · exact lv_lload_n hx hb hd rfl hg h2
    · exact lv_lload hx hb hd hg h2
theorem ks_aload (hx : p.tables.exec = Jvm.exec) (hb : c.code = cc) {i t len : Nat} (ht3 : t = 3 ∨ t = 4 ∨ t = 5) (hd : (∃ q : Fin 4, decode cc pc = .ok (.aload_n q, 1) ∧ q.val = i ∧ len = 1) ∨ (decode cc pc = .ok (.aload i, 2) ∧ len = 2))
    (hk : mmKS sh tg B b g aC p l e R s m args below meth c H0 D cl nL n0 z0 Qm (pc + len) k) : mmKS sh tg B b g aC p l e R s m args below meth c H0 D cl nL n0 z0 Qm pc (oLoad i t k) := by
  intro ls st h H locs lsA hp hA
  obtain ⟨ht, hp⟩ := mmG_iff.mp hp
  simp only [Bool.and_eq_true] at ht
  have e1 := mm_beq ht.1
  have hg := mmLv_get B b g hA.1 e1 (mm_blt ht.2)
  have hok : mmOk (h 0 0) (t, (ls.getD i (0, 0)).2) := by
    have := mm_getD_ok (i := i) hA.2.2.1
    rw [← e1]
    exact this
  have h2 := hk ls ((t, (ls.getD i (0, 0)).2) :: st) h H locs lsA hp (hA.stk (mm_cons hok hA.2.2.2.1))
  have hv : mmVal B b g (t, (ls.getD i (0, 0)).2) = .null ∨ ∃ a, mmVal B b g (t, (ls.getD i (0, 0)).2) = .ref a := by
    rcases ht3 with rfl | rfl | rfl
    · by_cases q : (ls.getD i (0, 0)).2 = 0
      · left; simp only [mmVal, q, if_true]
      · right; exact ⟨B + (ls.getD i (0, 0)).2.toNat, by simp only [mmVal, q, if_false]⟩
    · exact Or.inr ⟨_, rfl⟩
    · exact Or.inr ⟨_, rfl⟩
  rw [List.map_cons] at h2
  rcases hv with hv | ⟨a, hv⟩
  · rw [hv] at hg h2
    rcases hd with ⟨q, hd, rfl, rfl⟩ | ⟨hd, rfl⟩
    · exact lv_aload_nN hx hb hd rfl hg h2
    · exact lv_aloadN hx hb hd hg h2
  · rw [hv] at hg h2
    rcases hd with ⟨q, hd, rfl, rfl⟩ | ⟨hd, rfl⟩
    · exact lv_aload_n hx hb hd rfl hg h2
    · exact lv_aload hx hb hd hg h2
theorem mmIn.sto {ls st st' : List mmV} {h : mmH} {H : Heap} {locs : List Loc} {lsA lsB : Array Slot} {i t : Nat} {x : Int} (hA : mmIn sh tg B b g aC R H0 D cl nL n0 z0 ls st h H locs lsA) (hl : lv_has lsB nL (mmLv B b g (mmSt ls i t x))) (hv : mmOk (h 0 0) (t, x)) (hs : ∀ v ∈ st', mmOk (h 0 0) v) : mmIn sh tg B b g aC R H0 D cl nL n0 z0 (mmSt ls i t x) st' h H locs lsB :=
  ⟨hl, by rw [mmSt_len]; exact hA.2.1, mmSt_ok hA.2.2.1 hv, hs, hA.2.2.2.2⟩
theorem mm_fits1 {ls : List mmV} {i t : Nat} (ht : t ≠ 2) (h : mmFits ls i t = true) : i < ls.length := by
  unfold mmFits at h
  cases e : Nat.beq t 2 with
  | false => rw [e] at h; exact mm_blt h
  | true => exact absurd (mm_beq e) ht
theorem ks_istore (hx : p.tables.exec = Jvm.exec) (hb : c.code = cc) {i len : Nat} (hd : (∃ q : Fin 4, decode cc pc = .ok (.istore_n q, 1) ∧ q.val = i ∧ len = 1) ∨ (decode cc pc = .ok (.istore i, 2) ∧ len = 2))
    (hk : mmKS sh tg B b g aC p l e R s m args below meth c H0 D cl nL n0 z0 Qm (pc + len) k) : mmKS sh tg B b g aC p l e R s m args below meth c H0 D cl nL n0 z0 Qm pc (oStore i 1 k) := by
  intro ls st h H locs lsA hp hA
  match st, hp, hA with
  | ⟨t, x⟩ :: r, hp, hA =>
    obtain ⟨ht, hp⟩ := mmG_iff.mp hp
    simp only [Bool.and_eq_true] at ht
    have e1 : t = 1 := mm_beq ht.1
    subst e1
    have hn := mm_fits1 (t := 1) (by omega) ht.2
    have hn2 : i < nL := by rw [← hA.2.1]; exact hn
    have hs := hA.2.2.2.1
    rcases hd with ⟨q, hd, rfl, rfl⟩ | ⟨hd, rfl⟩
    · exact lv_istore_n hx hb hd rfl hA.1 hn2 rfl fun ls' h' => hk _ r h H locs ls' hp (hA.sto (mmLv_st1 B b g (by omega) ht.2 h') (mm_head hs) (mm_tail hs))
    · exact lv_istore hx hb hd hA.1 hn2 rfl fun ls' h' => hk _ r h H locs ls' hp (hA.sto (mmLv_st1 B b g (by omega) ht.2 h') (mm_head hs) (mm_tail hs))
theorem ks_lstore (hx : p.tables.exec = Jvm.exec) (hb : c.code = cc) {i len : Nat} (hd : (∃ q : Fin 4, decode cc pc = .ok (.lstore_n q, 1) ∧ q.val = i ∧ len = 1) ∨ (decode cc pc = .ok (.lstore i, 2) ∧ len = 2))
    (hk : mmKS sh tg B b g aC p l e R s m args below meth c H0 D cl nL n0 z0 Qm (pc + len) k) : mmKS sh tg B b g aC p l e R s m args below meth c H0 D cl nL n0 z0 Qm pc (oStore i 2 k) := by
  intro ls st h H locs lsA hp hA
  match st, hp, hA with
  | ⟨t, x⟩ :: r, hp, hA =>
    obtain ⟨ht, hp⟩ := mmG_iff.mp hp
    simp only [Bool.and_eq_true] at ht
    have e1 : t = 2 := mm_beq ht.1
    subst e1
    have hn : i + 1 < ls.length := mm_blt ht.2
    have hn2 : i + 1 < nL := by rw [← hA.2.1]; exact hn
    have hs := hA.2.2.2.1
    rcases hd with ⟨q, hd, rfl, rfl⟩ | ⟨hd, rfl⟩
    · exact lv_lstore_n hx hb hd rfl hA.1 hn2 rfl fun ls' h' => hk _ r h H locs ls' hp (hA.sto (mmLv_st2 B b g ht.2 h') (mm_head hs) (mm_tail hs))
    · exact lv_lstore hx hb hd hA.1 hn2 rfl fun ls' h' => hk _ r h H locs ls' hp (hA.sto (mmLv_st2 B b g ht.2 h') (mm_head hs) (mm_tail hs))
theorem ks_astore (hx : p.tables.exec = Jvm.exec) (hb : c.code = cc) {i len : Nat} (hd : (∃ q : Fin 4, decode cc pc = .ok (.astore_n q, 1) ∧ q.val = i ∧ len = 1) ∨ (decode cc pc = .ok (.astore i, 2) ∧ len = 2))
    (hk : mmKS sh tg B b g aC p l e R s m args below meth c H0 D cl nL n0 z0 Qm (pc + len) k) : mmKS sh tg B b g aC p l e R s m args below meth c H0 D cl nL n0 z0 Qm pc (oStore i 3 k) := by
  intro ls st h H locs lsA hp hA
  match st, hp, hA with
  | ⟨t, x⟩ :: r, hp, hA =>
    obtain ⟨ht, hp⟩ := mmG_iff.mp hp
    simp only [Bool.and_eq_true] at ht
    have e1 : t = 3 := mm_beq ht.1
    subst e1
    have hn := mm_fits1 (t := 3) (by omega) ht.2
    have hn2 : i < nL := by rw [← hA.2.1]; exact hn
    have hs := hA.2.2.2.1
    have key : ∀ ls' : Array Slot, lv_has ls' nL ((i, mmVal B b g (3, x)) :: (mmLv B b g ls).filter (fun q => !(q.1 == i) && !(q.1 + 1 == i && q.2.category == 2))) → W p l e R s m args below meth c H locs ((h 0 0).toNat - n0) ((h 0 1).toNat - z0) Qm (F0 m (pc + len) ls' (r.map (mmVal B b g))) :=
      fun ls' h' => hk _ r h H locs ls' hp (hA.sto (mmLv_st1 B b g (by omega) ht.2 h') (mm_head hs) (mm_tail hs))
    rw [List.map_cons]
    by_cases q0 : x = 0
    · have hv : mmVal B b g (3, x) = .null := by simp only [mmVal, q0, if_true]
      rw [hv] at key ⊢
      rcases hd with ⟨q, hd, rfl, rfl⟩ | ⟨hd, rfl⟩
      · exact lv_astore_nN hx hb hd rfl hA.1 hn2 rfl key
      · exact lv_astoreN hx hb hd hA.1 hn2 rfl key
    · have hv : mmVal B b g (3, x) = .ref (B + x.toNat) := by simp only [mmVal, q0, if_false]
      rw [hv] at key ⊢
      rcases hd with ⟨q, hd, rfl, rfl⟩ | ⟨hd, rfl⟩
      · exact lv_astore_n hx hb hd rfl hA.1 hn2 rfl key
      · exact lv_astore hx hb hd hA.1 hn2 rfl key
theorem ks_iinc (hx : p.tables.exec = Jvm.exec) (hb : c.code = cc) {i : Nat} {x : Int} (hd : decode cc pc = .ok (.iinc i x, 3)) (hk : mmKS sh tg B b g aC p l e R s m args below meth c H0 D cl nL n0 z0 Qm (pc + 3) k) : mmKS sh tg B b g aC p l e R s m args below meth c H0 D cl nL n0 z0 Qm pc (oIinc i x k) := by
  intro ls st h H locs lsA hp hA
  obtain ⟨ht, hp⟩ := mmG_iff.mp hp
  simp only [Bool.and_eq_true] at ht
  have e1 := mm_beq ht.1
  have hn := mm_fits1 (t := 1) (by omega) ht.2
  have hn2 : i < nL := by rw [← hA.2.1]; exact hn
  have hm : (i, mmVal B b g (1, (ls.getD i (0, 0)).2)) ∈ mmLv B b g ls := by
    refine (mmLv_in B b g).mpr ⟨hn, by omega, ?_⟩
    rw [← e1]
  obtain ⟨kq, hkq⟩ := List.getElem?_of_mem hm
  exact lv_iinc hx hb hd hA.1 hkq rfl hn2 rfl fun ls' h' => hk _ st h H locs ls' hp (hA.sto (mmLv_st1 B b g (by omega) ht.2 (by
    have e2 : mmVal B b g (1, mAdd (ls.getD i (0, 0)).2 x) = .int (Int32.ofInt (ls.getD i (0, 0)).2 + Int32.ofInt x) := by
      show Value.int (Int32.ofInt (mAdd _ _)) = _
      rw [mAdd_def]
      rw [mm_o32]
    rw [e2]
    exact h')) (by rw [mAdd_def]; exact mm_ok1 _) hA.2.2.2.1)
/-- two ints give one -/
theorem ks_i2 {f : Nat} {len : Nat} (hs : ∀ (x y : Int) (H : Heap) (locs : List Loc) (n z : Nat) (lsA : Array Slot) (r : List Value), W p l e R s m args below meth c H locs n z Qm (F0 m (pc + len) lsA (.int (Int32.ofInt (mI2 f x y)) :: r)) → W p l e R s m args below meth c H locs n z Qm (F0 m pc lsA (.int (Int32.ofInt y) :: .int (Int32.ofInt x) :: r)))
    (hr : ∀ x y : Int, -2147483648 ≤ mI2 f x y ∧ mI2 f x y < 2147483648) (hk : mmKS sh tg B b g aC p l e R s m args below meth c H0 D cl nL n0 z0 Qm (pc + len) k) : mmKS sh tg B b g aC p l e R s m args below meth c H0 D cl nL n0 z0 Qm pc (oI2 f k) := by
  intro ls st h H locs lsA hp hA
  match st, hp, hA with
  | ⟨t1, y⟩ :: ⟨t2, x⟩ :: r, hp, hA =>
    obtain ⟨ht, hp⟩ := mmG_iff.mp hp
    simp only [Bool.and_eq_true] at ht
    have e1 : t1 = 1 := mm_beq ht.1
    have e2 : t2 = 1 := mm_beq ht.2
    subst e1; subst e2
    exact hs x y H locs _ _ lsA _ (hk ls _ h H locs lsA hp (hA.stk (mm_cons (hr x y) (mm_tail (mm_tail hA.2.2.2.1)))))
theorem ks_l2 {f : Nat} {len : Nat} (hs : ∀ (x y : Int) (H : Heap) (locs : List Loc) (n z : Nat) (lsA : Array Slot) (r : List Value), W p l e R s m args below meth c H locs n z Qm (F0 m (pc + len) lsA (.long (Int64.ofInt (nI2 f x y)) :: r)) → W p l e R s m args below meth c H locs n z Qm (F0 m pc lsA (.long (Int64.ofInt y) :: .long (Int64.ofInt x) :: r)))
    (hr : ∀ x y : Int, -9223372036854775808 ≤ nI2 f x y ∧ nI2 f x y < 9223372036854775808) (hk : mmKS sh tg B b g aC p l e R s m args below meth c H0 D cl nL n0 z0 Qm (pc + len) k) : mmKS sh tg B b g aC p l e R s m args below meth c H0 D cl nL n0 z0 Qm pc (oL2 f k) := by
  intro ls st h H locs lsA hp hA
  match st, hp, hA with
  | ⟨t1, y⟩ :: ⟨t2, x⟩ :: r, hp, hA =>
    obtain ⟨ht, hp⟩ := mmG_iff.mp hp
    simp only [Bool.and_eq_true] at ht
    have e1 : t1 = 2 := mm_beq ht.1
    have e2 : t2 = 2 := mm_beq ht.2
    subst e1; subst e2
    exact hs x y H locs _ _ lsA _ (hk ls _ h H locs lsA hp (hA.stk (mm_cons (hr x y) (mm_tail (mm_tail hA.2.2.2.1)))))
theorem ks_int (hx : p.tables.exec = Jvm.exec) (hb : c.code = cc) {f : Nat} (hd : (f = 0 ∧ decode cc pc = .ok (.iadd, 1)) ∨ (f = 1 ∧ decode cc pc = .ok (.isub, 1)) ∨ (f = 2 ∧ decode cc pc = .ok (.imul, 1)) ∨ (f = 3 ∧ decode cc pc = .ok (.iand, 1)) ∨ (f = 4 ∧ decode cc pc = .ok (.ior, 1)) ∨ (f = 5 ∧ decode cc pc = .ok (.ixor, 1)) ∨ (f = 6 ∧ decode cc pc = .ok (.ishl, 1)) ∨ (f = 7 ∧ decode cc pc = .ok (.ishr, 1)) ∨ (f = 8 ∧ decode cc pc = .ok (.iushr, 1)))
    (hk : mmKS sh tg B b g aC p l e R s m args below meth c H0 D cl nL n0 z0 Qm (pc + 1) k) : mmKS sh tg B b g aC p l e R s m args below meth c H0 D cl nL n0 z0 Qm pc (oI2 f k) := by
  rcases hd with ⟨rfl, hd⟩ | ⟨rfl, hd⟩ | ⟨rfl, hd⟩ | ⟨rfl, hd⟩ | ⟨rfl, hd⟩ | ⟨rfl, hd⟩ | ⟨rfl, hd⟩ | ⟨rfl, hd⟩ | ⟨rfl, hd⟩
  · exact ks_i2 (fun x y H locs n z lsA r h => lv_iadd hx hb hd (by simp only [mI2, mAdd_def, mm_o32] at h; exact h)) (fun x y => by simp only [mI2, mAdd_def]; exact mm_r32 _) hk
  · exact ks_i2 (fun x y H locs n z lsA r h => lv_isub hx hb hd (by simp only [mI2, mSub_def, mm_o32] at h; exact h)) (fun x y => by simp only [mI2, mSub_def]; exact mm_r32 _) hk
  · exact ks_i2 (fun x y H locs n z lsA r h => lv_imul hx hb hd (by simp only [mI2, mMul_def, mm_o32] at h; exact h)) (fun x y => by simp only [mI2, mMul_def]; exact mm_r32 _) hk
  · exact ks_i2 (fun x y H locs n z lsA r h => lv_iand hx hb hd (by simp only [mI2, mAnd_def, mm_o32] at h; exact h)) (fun x y => by simp only [mI2, mAnd_def]; exact mm_r32 _) hk
  · exact ks_i2 (fun x y H locs n z lsA r h => lv_ior hx hb hd (by simp only [mI2, mOr_def, mm_o32] at h; exact h)) (fun x y => by simp only [mI2, mOr_def]; exact mm_r32 _) hk
  · exact ks_i2 (fun x y H locs n z lsA r h => lv_ixor hx hb hd (by simp only [mI2, mXor_def, mm_o32] at h; exact h)) (fun x y => by simp only [mI2, mXor_def]; exact mm_r32 _) hk
  · exact ks_i2 (fun x y H locs n z lsA r h => lv_ishl hx hb hd (by simp only [mI2, mShl_def, mm_o32] at h; exact h)) (fun x y => by simp only [mI2, mShl_def]; exact mm_r32 _) hk
  · exact ks_i2 (fun x y H locs n z lsA r h => lv_ishr hx hb hd (by simp only [mI2, mShr_def, mm_o32] at h; exact h)) (fun x y => by simp only [mI2, mShr_def]; exact mm_r32 _) hk
  · exact ks_i2 (fun x y H locs n z lsA r h => lv_iushr hx hb hd rfl (by simp only [mI2, mUshr_def, mm_o32] at h; exact h)) (fun x y => by simp only [mI2, mUshr_def]; exact mm_r32 _) hk
theorem ks_long (hx : p.tables.exec = Jvm.exec) (hb : c.code = cc) {f : Nat} (hd : (f = 0 ∧ decode cc pc = .ok (.ladd, 1)) ∨ (f = 1 ∧ decode cc pc = .ok (.lsub, 1)) ∨ (f = 2 ∧ decode cc pc = .ok (.lmul, 1)) ∨ (f = 3 ∧ decode cc pc = .ok (.land, 1)) ∨ (f = 4 ∧ decode cc pc = .ok (.lor, 1)) ∨ (f = 5 ∧ decode cc pc = .ok (.lxor, 1)))
    (hk : mmKS sh tg B b g aC p l e R s m args below meth c H0 D cl nL n0 z0 Qm (pc + 1) k) : mmKS sh tg B b g aC p l e R s m args below meth c H0 D cl nL n0 z0 Qm pc (oL2 f k) := by
  rcases hd with ⟨rfl, hd⟩ | ⟨rfl, hd⟩ | ⟨rfl, hd⟩ | ⟨rfl, hd⟩ | ⟨rfl, hd⟩ | ⟨rfl, hd⟩
  · exact ks_l2 (fun x y H locs n z lsA r h => lv_ladd hx hb hd (by simp only [nI2, nAdd_def, mm_o64] at h; exact h)) (fun x y => by simp only [nI2, nAdd_def]; exact mm_r64 _) hk
  · exact ks_l2 (fun x y H locs n z lsA r h => lv_lsub hx hb hd (by simp only [nI2, nSub_def, mm_o64] at h; exact h)) (fun x y => by simp only [nI2, nSub_def]; exact mm_r64 _) hk
  · exact ks_l2 (fun x y H locs n z lsA r h => lv_lmul hx hb hd (by simp only [nI2, nMul_def, mm_o64] at h; exact h)) (fun x y => by simp only [nI2, nMul_def]; exact mm_r64 _) hk
  · exact ks_l2 (fun x y H locs n z lsA r h => lv_land hx hb hd (by simp only [nI2, nAnd_def, mm_o64] at h; exact h)) (fun x y => by simp only [nI2, nAnd_def]; exact mm_r64 _) hk
  · exact ks_l2 (fun x y H locs n z lsA r h => lv_lor hx hb hd (by simp only [nI2, nOr_def, mm_o64] at h; exact h)) (fun x y => by simp only [nI2, nOr_def]; exact mm_r64 _) hk
  · exact ks_l2 (fun x y H locs n z lsA r h => lv_lxor hx hb hd (by simp only [nI2, nXor_def, mm_o64] at h; exact h)) (fun x y => by simp only [nI2, nXor_def]; exact mm_r64 _) hk
theorem mm_n032 {y : Int} (h1 : -2147483648 ≤ y) (h2 : y < 2147483648) (h : y ≠ 0) : ¬ Int32.ofInt y = 0 := fun q => h (by
  have := congrArg Int32.toInt q
  rw [mm_t32 h1 h2] at this
  exact this)
theorem mm_n064 {y : Int} (h1 : -9223372036854775808 ≤ y) (h2 : y < 9223372036854775808) (h : y ≠ 0) : ¬ Int64.ofInt y = 0 := fun q => h (by
  have := congrArg Int64.toInt q
  rw [mm_t64 h1 h2] at this
  exact this)
theorem ks_div (hx : p.tables.exec = Jvm.exec) (hb : c.code = cc) {f : Nat} (hd : (f = 0 ∧ decode cc pc = .ok (.idiv, 1)) ∨ (f = 1 ∧ decode cc pc = .ok (.irem, 1)) ∨ (f = 2 ∧ decode cc pc = .ok (.ldiv, 1)) ∨ (f = 3 ∧ decode cc pc = .ok (.lrem, 1)))
    (hk : mmKS sh tg B b g aC p l e R s m args below meth c H0 D cl nL n0 z0 Qm (pc + 1) k) : mmKS sh tg B b g aC p l e R s m args below meth c H0 D cl nL n0 z0 Qm pc (oDv f k) := by
  intro ls st h H locs lsA hp hA
  match st, hp, hA with
  | ⟨t1, y⟩ :: ⟨t2, x⟩ :: r, hp, hA =>
    have hs := hA.2.2.2.1
    rcases hd with ⟨rfl, hd⟩ | ⟨rfl, hd⟩ | ⟨rfl, hd⟩ | ⟨rfl, hd⟩
    · obtain ⟨ht, hp⟩ := mmG_iff.mp hp
      obtain ⟨h0, hp⟩ := mmD_iff.mp hp
      simp only [Bool.and_eq_true] at ht
      have e1 : t1 = 1 := mm_beq ht.1
      have e2 : t2 = 1 := mm_beq ht.2
      subst e1; subst e2
      have hy := mm_head hs
      have h2 := hk ls _ h H locs lsA hp (hA.stk (mm_cons (by rw [mDiv_def]; exact mm_ok1 _) (mm_tail (mm_tail hs))))
      rw [List.map_cons] at h2
      exact lv_idiv hx hb hd (mm_n032 hy.1 hy.2 h0) (by simp only [mmVal, mDiv_def, mm_o32] at h2; exact h2)
    · obtain ⟨ht, hp⟩ := mmG_iff.mp hp
      obtain ⟨h0, hp⟩ := mmD_iff.mp hp
      simp only [Bool.and_eq_true] at ht
      have e1 : t1 = 1 := mm_beq ht.1
      have e2 : t2 = 1 := mm_beq ht.2
      subst e1; subst e2
      have hy := mm_head hs
      have h2 := hk ls _ h H locs lsA hp (hA.stk (mm_cons (by rw [mRem_def]; exact mm_ok1 _) (mm_tail (mm_tail hs))))
      rw [List.map_cons] at h2
      exact lv_irem hx hb hd (mm_n032 hy.1 hy.2 h0) (by simp only [mmVal, mRem_def, mm_o32] at h2; exact h2)
    · obtain ⟨ht, hp⟩ := mmG_iff.mp hp
      obtain ⟨h0, hp⟩ := mmD_iff.mp hp
      simp only [Bool.and_eq_true] at ht
      have e1 : t1 = 2 := mm_beq ht.1
      have e2 : t2 = 2 := mm_beq ht.2
      subst e1; subst e2
      have hy := mm_head hs
      have h2 := hk ls _ h H locs lsA hp (hA.stk (mm_cons (by rw [nDiv_def]; exact mm_ok2 _) (mm_tail (mm_tail hs))))
      rw [List.map_cons] at h2
      exact lv_ldiv hx hb hd (mm_n064 hy.1 hy.2 h0) (by simp only [mmVal, nDiv_def, mm_o64] at h2; exact h2)
    · obtain ⟨ht, hp⟩ := mmG_iff.mp hp
      obtain ⟨h0, hp⟩ := mmD_iff.mp hp
      simp only [Bool.and_eq_true] at ht
      have e1 : t1 = 2 := mm_beq ht.1
      have e2 : t2 = 2 := mm_beq ht.2
      subst e1; subst e2
      have hy := mm_head hs
      have h2 := hk ls _ h H locs lsA hp (hA.stk (mm_cons (by rw [nRem_def]; exact mm_ok2 _) (mm_tail (mm_tail hs))))
      rw [List.map_cons] at h2
      exact lv_lrem hx hb hd (mm_n064 hy.1 hy.2 h0) (by simp only [mmVal, nRem_def, mm_o64] at h2; exact h2)
theorem ks_cv (hx : p.tables.exec = Jvm.exec) (hb : c.code = cc) {f : Nat} (hd : (f = 0 ∧ decode cc pc = .ok (.i2l, 1)) ∨ (f = 1 ∧ decode cc pc = .ok (.l2i, 1))) (hk : mmKS sh tg B b g aC p l e R s m args below meth c H0 D cl nL n0 z0 Qm (pc + 1) k) : mmKS sh tg B b g aC p l e R s m args below meth c H0 D cl nL n0 z0 Qm pc (oCv f k) := by
  intro ls st h H locs lsA hp hA
  match st, hp, hA with
  | ⟨t1, x⟩ :: r, hp, hA =>
    have hs := hA.2.2.2.1
    rcases hd with ⟨rfl, hd⟩ | ⟨rfl, hd⟩
    · obtain ⟨ht, hp⟩ := mmG_iff.mp hp
      have e1 : t1 = 1 := mm_beq ht
      subst e1
      have hy := mm_head hs
      have h1 := hy.1
      have h3 := hy.2
      simp only [] at h1 h3
      have h2 := hk ls _ h H locs lsA hp (hA.stk (mm_cons (show mmOk (h 0 0) (2, x) from ⟨by show _ ≤ x; omega, by show x < _; omega⟩) (mm_tail hs)))
      refine lv_i2l hx hb hd ?_ h2
      apply Int64.toInt_inj.mp
      rw [Int32.toInt_toInt64, mm_t32 h1 h3]
      exact (mm_t64 (by omega) (by omega)).symm
    · obtain ⟨ht, hp⟩ := mmG_iff.mp hp
      have e1 : t1 = 2 := mm_beq ht
      subst e1
      have h2 := hk ls _ h H locs lsA hp (hA.stk (mm_cons (by rw [mL2i_def]; exact mm_ok1 _) (mm_tail hs)))
      refine lv_l2i hx hb hd ?_ h2
      simp only [mL2i_def, mm_o32]
theorem ks_lcmp (hx : p.tables.exec = Jvm.exec) (hb : c.code = cc) (hd : decode cc pc = .ok (.lcmp, 1)) (hk : mmKS sh tg B b g aC p l e R s m args below meth c H0 D cl nL n0 z0 Qm (pc + 1) k) : mmKS sh tg B b g aC p l e R s m args below meth c H0 D cl nL n0 z0 Qm pc (oLcmp k) := by
  intro ls st h H locs lsA hp hA
  match st, hp, hA with
  | ⟨t1, y⟩ :: ⟨t2, x⟩ :: r, hp, hA =>
    have hs := hA.2.2.2.1
    obtain ⟨ht, hp⟩ := mmG_iff.mp hp
    simp only [Bool.and_eq_true] at ht
    have e1 : t1 = 2 := mm_beq ht.1
    have e2 : t2 = 2 := mm_beq ht.2
    subst e1; subst e2
    have hy := mm_head hs
    have hz := mm_head (mm_tail hs)
    have hr : -2147483648 ≤ mLcmp x y ∧ mLcmp x y < 2147483648 := by
      unfold mLcmp
      split
      · omega
      · split <;> omega
    have h2 := hk ls _ h H locs lsA hp (hA.stk (mm_cons (show mmOk (h 0 0) (1, mLcmp x y) from hr) (mm_tail (mm_tail hs))))
    refine W.lcmp hx hb hd ?_
    have e3 : lg_cmp (Int64.ofInt x) (Int64.ofInt y) = Int32.ofInt (mLcmp x y) := by
      unfold lg_cmp mLcmp
      have c1 : (Int64.ofInt y < Int64.ofInt x) ↔ y < x := by rw [Int64.lt_iff_toInt_lt, mm_t64 hy.1 hy.2, mm_t64 hz.1 hz.2]
      have c2 : (Int64.ofInt x = Int64.ofInt y) ↔ x = y := by rw [← Int64.toInt_inj, mm_t64 hy.1 hy.2, mm_t64 hz.1 hz.2]
      simp only [c1, c2]
      split
      · rfl
      · split <;> rfl
    rw [e3]
    exact h2
theorem mm_nc2 {t : Nat} {x : Int} (h : (!Nat.beq t 2) = true) : (mmVal B b g (t, x)).category = 1 := by
  rw [mmVal_cat]
  by_cases e : t = 2
  · subst e; cases h
  · simp only [e, if_false]
theorem ks_stk (hx : p.tables.exec = Jvm.exec) (hb : c.code = cc) {f : Nat} (hd : (f = 0 ∧ decode cc pc = .ok (.dup, 1)) ∨ (f = 1 ∧ decode cc pc = .ok (.dup2, 1)) ∨ (f = 2 ∧ decode cc pc = .ok (.pop, 1))) (hk : mmKS sh tg B b g aC p l e R s m args below meth c H0 D cl nL n0 z0 Qm (pc + 1) k) : mmKS sh tg B b g aC p l e R s m args below meth c H0 D cl nL n0 z0 Qm pc (oStk f k) := by
  intro ls st h H locs lsA hp hA
  have hs := hA.2.2.2.1
  rcases hd with ⟨rfl, hd⟩ | ⟨rfl, hd⟩ | ⟨rfl, hd⟩
  · match st, hp, hA, hs with
    | ⟨t1, y⟩ :: r, hp, hA, hs =>
      obtain ⟨ht, hp⟩ := mmG_iff.mp hp
      exact lv_dup hx hb hd (mm_nc2 ht) (hk ls _ h H locs lsA hp (hA.stk (mm_cons (mm_head hs) hs)))
  · match st, hp, hA, hs with
    | ⟨t1, y⟩ :: ⟨t2, x⟩ :: r, hp, hA, hs =>
      obtain ⟨ht, hp⟩ := mmG_iff.mp hp
      simp only [Bool.and_eq_true] at ht
      exact lv_dup2_11 hx hb hd (mm_nc2 ht.1) (mm_nc2 ht.2) (hk ls _ h H locs lsA hp (hA.stk (mm_cons (mm_head hs) (mm_cons (mm_head (mm_tail hs)) hs))))
  · match st, hp, hA, hs with
    | ⟨t1, y⟩ :: r, hp, hA, hs =>
      obtain ⟨ht, hp⟩ := mmG_iff.mp hp
      exact lv_pop hx hb hd (mm_nc2 ht) (hk ls _ h H locs lsA hp (hA.stk (mm_tail hs)))
end MR
end
section
/-! ===== mm: jumps, fields, rows of numbers ===== -/
section MR2
variable {sh : Int → Nat × Nat} {tg : Nat → Nat → Nat} {B b g : Nat} {aC : Nat → ClassId} {p : Program} {l : Launch} {e : Env} {R : Room} {s : State} {m : MethodId} {args : Array Value} {below : List Frame} {meth : Method} {c : Code} {H0 : Heap} {D : va_G} {cl : List vw_C} {nL n0 z0 : Nat} {Qm : State → Prop}
variable {pc : Nat} {k : mmKont} {cc : ByteArray} {X : Nat → mmKont}
theorem mm_lt32 {x y : Int} {n : Int} (hx : mmOk n (1, x)) (hy : mmOk n (1, y)) : (Int32.ofInt x < Int32.ofInt y) ↔ x < y := by
  rw [Int32.lt_iff_toInt_lt, mm_t32 hx.1 hx.2, mm_t32 hy.1 hy.2]
theorem mm_le32 {x y : Int} {n : Int} (hx : mmOk n (1, x)) (hy : mmOk n (1, y)) : (Int32.ofInt x ≤ Int32.ofInt y) ↔ x ≤ y := by
  rw [Int32.le_iff_toInt_le, mm_t32 hx.1 hx.2, mm_t32 hy.1 hy.2]
theorem mm_eq32 {x y : Int} {n : Int} (hx : mmOk n (1, x)) (hy : mmOk n (1, y)) : (Int32.ofInt x = Int32.ofInt y) ↔ x = y := by
  rw [← Int32.toInt_inj, mm_t32 hx.1 hx.2, mm_t32 hy.1 hy.2]
theorem mm_ok0 {n : Int} : mmOk n (1, 0) := ⟨by show (-2147483648 : Int) ≤ 0; omega, by show (0 : Int) < 2147483648; omega⟩
theorem ks_icmp (hx : p.tables.exec = Jvm.exec) (hb : c.code = cc) {cd bl : Nat} {off : Int} {tgt : Nat} (ht : (pc : Int) + off = (tgt : Int))
    (hd : (cd = 0 ∧ decode cc pc = .ok (.if_icmp .eq off, 3)) ∨ (cd = 1 ∧ decode cc pc = .ok (.if_icmp .ne off, 3)) ∨ (cd = 2 ∧ decode cc pc = .ok (.if_icmp .lt off, 3)) ∨ (cd = 3 ∧ decode cc pc = .ok (.if_icmp .ge off, 3)) ∨ (cd = 4 ∧ decode cc pc = .ok (.if_icmp .gt off, 3)) ∨ (cd = 5 ∧ decode cc pc = .ok (.if_icmp .le off, 3)))
    (hk : mmKS sh tg B b g aC p l e R s m args below meth c H0 D cl nL n0 z0 Qm (pc + 3) k) (hX : mmKS sh tg B b g aC p l e R s m args below meth c H0 D cl nL n0 z0 Qm tgt (X bl)) : mmKS sh tg B b g aC p l e R s m args below meth c H0 D cl nL n0 z0 Qm pc (oIcmp X cd bl k) := by
  intro ls st h H locs lsA hp hA
  match st, hp, hA with
  | ⟨t1, y⟩ :: ⟨t2, x⟩ :: r, hp, hA =>
    have hs := hA.2.2.2.1
    obtain ⟨htg, hp1, hp2⟩ := mmG_iff.mp hp
    simp only [Bool.and_eq_true] at htg
    have e1 : t1 = 1 := mm_beq htg.1
    have e2 : t2 = 1 := mm_beq htg.2
    subst e1; subst e2
    have hy := mm_head hs
    have hz := mm_head (mm_tail hs)
    have hA2 := hA.stk (mm_tail (mm_tail hs))
    rcases hd with ⟨rfl, hd⟩ | ⟨rfl, hd⟩ | ⟨rfl, hd⟩ | ⟨rfl, hd⟩ | ⟨rfl, hd⟩ | ⟨rfl, hd⟩
    · exact lv_icmp_eq hx hb hd ht (fun q => hX ls r h H locs lsA (hp1 ((mm_eq32 hz hy).mp q)) hA2) (fun q => hk ls r h H locs lsA (hp2 (fun z => q ((mm_eq32 hz hy).mpr z))) hA2)
    · exact lv_icmp_ne hx hb hd ht (fun q => hX ls r h H locs lsA (hp1 (fun z => q ((mm_eq32 hz hy).mpr z))) hA2) (fun q => hk ls r h H locs lsA (hp2 (fun z => z ((mm_eq32 hz hy).mp q))) hA2)
    · exact lv_icmp_lt hx hb hd ht (fun q => hX ls r h H locs lsA (hp1 ((mm_lt32 hz hy).mp q)) hA2) (fun q => hk ls r h H locs lsA (hp2 (fun z => q ((mm_lt32 hz hy).mpr z))) hA2)
    · exact lv_icmp_ge hx hb hd ht (fun q => hX ls r h H locs lsA (hp1 ((mm_le32 hy hz).mp q)) hA2) (fun q => hk ls r h H locs lsA (hp2 (fun z => q ((mm_le32 hy hz).mpr z))) hA2)
    · exact lv_icmp_gt hx hb hd ht (fun q => hX ls r h H locs lsA (hp1 ((mm_lt32 hy hz).mp q)) hA2) (fun q => hk ls r h H locs lsA (hp2 (fun z => q ((mm_lt32 hy hz).mpr z))) hA2)
    · exact lv_icmp_le hx hb hd ht (fun q => hX ls r h H locs lsA (hp1 ((mm_le32 hz hy).mp q)) hA2) (fun q => hk ls r h H locs lsA (hp2 (fun z => q ((mm_le32 hz hy).mpr z))) hA2)
theorem ks_if (hx : p.tables.exec = Jvm.exec) (hb : c.code = cc) {cd bl : Nat} {off : Int} {tgt : Nat} (ht : (pc : Int) + off = (tgt : Int))
    (hd : (cd = 0 ∧ decode cc pc = .ok (.ifCond .eq off, 3)) ∨ (cd = 1 ∧ decode cc pc = .ok (.ifCond .ne off, 3)) ∨ (cd = 2 ∧ decode cc pc = .ok (.ifCond .lt off, 3)) ∨ (cd = 3 ∧ decode cc pc = .ok (.ifCond .ge off, 3)) ∨ (cd = 4 ∧ decode cc pc = .ok (.ifCond .gt off, 3)) ∨ (cd = 5 ∧ decode cc pc = .ok (.ifCond .le off, 3)))
    (hk : mmKS sh tg B b g aC p l e R s m args below meth c H0 D cl nL n0 z0 Qm (pc + 3) k) (hX : mmKS sh tg B b g aC p l e R s m args below meth c H0 D cl nL n0 z0 Qm tgt (X bl)) : mmKS sh tg B b g aC p l e R s m args below meth c H0 D cl nL n0 z0 Qm pc (oIf X cd bl k) := by
  intro ls st h H locs lsA hp hA
  match st, hp, hA with
  | ⟨t2, x⟩ :: r, hp, hA =>
    have hs := hA.2.2.2.1
    obtain ⟨htg, hp1, hp2⟩ := mmG_iff.mp hp
    have e2 : t2 = 1 := mm_beq htg
    subst e2
    have hz := mm_head hs
    have hy : mmOk (h 0 0) (1, 0) := mm_ok0
    have hA2 := hA.stk (mm_tail hs)
    have e0 : (0 : Int32) = Int32.ofInt 0 := rfl
    rcases hd with ⟨rfl, hd⟩ | ⟨rfl, hd⟩ | ⟨rfl, hd⟩ | ⟨rfl, hd⟩ | ⟨rfl, hd⟩ | ⟨rfl, hd⟩
    · exact lv_if_eq hx hb hd ht (fun q => hX ls r h H locs lsA (hp1 ((mm_eq32 hz hy).mp q)) hA2) (fun q => hk ls r h H locs lsA (hp2 (fun z => q ((mm_eq32 hz hy).mpr z))) hA2)
    · exact lv_if_ne hx hb hd ht (fun q => hX ls r h H locs lsA (hp1 (fun z => q ((mm_eq32 hz hy).mpr z))) hA2) (fun q => hk ls r h H locs lsA (hp2 (fun z => z ((mm_eq32 hz hy).mp q))) hA2)
    · exact lv_if_lt hx hb hd ht (fun q => hX ls r h H locs lsA (hp1 ((mm_lt32 hz hy).mp q)) hA2) (fun q => hk ls r h H locs lsA (hp2 (fun z => q ((mm_lt32 hz hy).mpr z))) hA2)
    · exact lv_if_ge hx hb hd ht (fun q => hX ls r h H locs lsA (hp1 ((mm_le32 hy hz).mp q)) hA2) (fun q => hk ls r h H locs lsA (hp2 (fun z => q ((mm_le32 hy hz).mpr z))) hA2)
    · exact lv_if_gt hx hb hd ht (fun q => hX ls r h H locs lsA (hp1 ((mm_lt32 hy hz).mp q)) hA2) (fun q => hk ls r h H locs lsA (hp2 (fun z => q ((mm_lt32 hy hz).mpr z))) hA2)
    · exact lv_if_le hx hb hd ht (fun q => hX ls r h H locs lsA (hp1 ((mm_le32 hz hy).mp q)) hA2) (fun q => hk ls r h H locs lsA (hp2 (fun z => q ((mm_le32 hz hy).mpr z))) hA2)
theorem ks_goto (hx : p.tables.exec = Jvm.exec) (hb : c.code = cc) {off : Int} {tgt : Nat} (ht : (pc : Int) + off = (tgt : Int)) (hd : decode cc pc = .ok (.goto off, 3)) (hk : mmKS sh tg B b g aC p l e R s m args below meth c H0 D cl nL n0 z0 Qm tgt k) : mmKS sh tg B b g aC p l e R s m args below meth c H0 D cl nL n0 z0 Qm pc k := by
  intro ls st h H locs lsA hp hA
  exact lv_goto hx hb hd ht (hk ls st h H locs lsA hp hA)
theorem mm_tsw {x : Int} {F : Nat → Prop} : ∀ (ts : List Int) (lo : Int), mmTsw x lo ts F → lo ≤ x → x < lo + (ts.length : Int) → ∃ t, ts[(x - lo).toNat]? = some t ∧ F t.toNat
  | [], lo, _, h1, h2 => by simp at h2; omega
  | t :: ts, lo, h, h1, h2 => by
    by_cases e : x = lo
    · subst e
      exact ⟨t, by simp, h.1 rfl⟩
    · obtain ⟨t', a1, a2⟩ := mm_tsw ts (lo + 1) h.2 (by omega) (by simp at h2; omega)
      refine ⟨t', ?_, a2⟩
      have : (x - lo).toNat = (x - (lo + 1)).toNat + 1 := by omega
      rw [this, List.getElem?_cons_succ]
      exact a1
theorem ks_tsw (hx : p.tables.exec = Jvm.exec) (hb : c.code = cc) {d lo hi : Int} {offs : Array Int} {len : Nat} {dt : Int} {ts : List Int} {pcs : Nat → Nat} (hd : decode cc pc = .ok (.tableswitch d lo hi offs, len)) (hn : lo + (ts.length : Int) = hi + 1)
    (h1 : (pc : Int) + d = (pcs dt.toNat : Nat)) (h2 : ∀ (j : Nat) (t : Int), ts[j]? = some t → ∃ off, offs[j]? = some off ∧ (pc : Int) + off = (pcs t.toNat : Nat)) (hX : ∀ bl : Nat, mmKS sh tg B b g aC p l e R s m args below meth c H0 D cl nL n0 z0 Qm (pcs bl) (X bl)) : mmKS sh tg B b g aC p l e R s m args below meth c H0 D cl nL n0 z0 Qm pc (oTsw X lo (dt :: ts)) := by
  intro ls st h H locs lsA hp hA
  match st, hp, hA with
  | ⟨t1, x⟩ :: r, hp, hA =>
    have hs := hA.2.2.2.1
    obtain ⟨htg, hp1, hp2⟩ := mmG_iff.mp hp
    have e2 : t1 = 1 := mm_beq htg
    subst e2
    have hz := mm_head hs
    have hA2 := hA.stk (mm_tail hs)
    have ex : (Int32.ofInt x).toInt = x := mm_t32 hz.1 hz.2
    simp only [] at hp1 hp2
    by_cases q : x < lo ∨ hi < x
    · refine lv_tableOut hx hb hd (by rw [ex]; exact q) h1 (hX _ ls r h H locs lsA (hp2 ?_) hA2)
      rcases q with q | q
      · exact Or.inl q
      · exact Or.inr (by omega)
    · obtain ⟨t, a1, a2⟩ := mm_tsw ts lo hp1 (by omega) (by omega)
      obtain ⟨off, b1, b2⟩ := h2 _ _ a1
      exact lv_tableIn hx hb hd (by rw [ex]; omega) (by rw [ex]; omega) (by rw [ex]; exact b1) b2 (hX _ ls r h H locs lsA a2 hA2)
theorem mm_lsw {x : Int} {F : Nat → Prop} {Dp : Prop} {pc : Nat} {pcs : Nat → Nat} {d : Int} {G : Int → Prop} (hF : ∀ t : Nat, F t → ∀ off : Int, (pc : Int) + off = (pcs t : Nat) → G off) (hD : Dp → G d) :
    ∀ (ps : List (Int × Int)) (ts : List Int), mmLsw x ts F Dp → ts.length = 2 * ps.length → (∀ (j : Nat) (q : Int × Int), ps[j]? = some q → ts[2 * j]? = some q.1 ∧ ∃ t, ts[2 * j + 1]? = some t ∧ (pc : Int) + q.2 = (pcs t.toNat : Nat)) → G (Op.lookupswitch.offset ps d x)
  | [], [], h, _, _ => by
    rw [show Op.lookupswitch.offset [] d x = d from rfl]
    exact hD h
  | [], _ :: _, _, hl, _ => by simp at hl
  | q :: ps, [], _, hl, _ => by simp at hl
  | q :: ps, [_], _, hl, _ => by simp at hl; omega
  | q :: ps, a :: t :: ts, h, hl, hq => by
    obtain ⟨e1, t', e2, e3⟩ := hq 0 q rfl
    simp at e1 e2
    subst e1; subst e2
    rw [Op.lookupswitch.offset_cons]
    by_cases e : x = q.1
    · have := hF _ (h.1 (by rw [e])) q.2 e3
      simp [e]
      exact this
    · have := mm_lsw hF hD ps ts (h.2 (fun z => e z)) (by simp at hl ⊢; omega) (fun j w hj => by
        obtain ⟨f1, t2, f2, f3⟩ := hq (j + 1) w (by simpa using hj)
        have g1 : 2 * (j + 1) = 2 * j + 1 + 1 := by omega
        rw [g1] at f1 f2
        exact ⟨by simpa using f1, t2, by simpa using f2, f3⟩)
      first
        | (rw [if_neg (fun z => e z)]; exact this)
        | (rw [if_neg (fun z => e z.symm)]; exact this)
theorem ks_lsw (hx : p.tables.exec = Jvm.exec) (hb : c.code = cc) {d : Int} {ps : Array (Int × Int)} {len : Nat} {dt : Int} {ts : List Int} {pcs : Nat → Nat} (hd : decode cc pc = .ok (.lookupswitch d ps, len)) (hsorted : (ps.toList.zip (ps.toList.drop 1)).all (fun (a, next) => a.1 < next.1) = true)
    (h1 : (pc : Int) + d = (pcs dt.toNat : Nat)) (hl : ts.length = 2 * ps.toList.length) (h2 : ∀ (j : Nat) (q : Int × Int), ps.toList[j]? = some q → ts[2 * j]? = some q.1 ∧ ∃ t, ts[2 * j + 1]? = some t ∧ (pc : Int) + q.2 = (pcs t.toNat : Nat)) (hX : ∀ bl : Nat, mmKS sh tg B b g aC p l e R s m args below meth c H0 D cl nL n0 z0 Qm (pcs bl) (X bl)) : mmKS sh tg B b g aC p l e R s m args below meth c H0 D cl nL n0 z0 Qm pc (oLsw X (dt :: ts)) := by
  intro ls st h H locs lsA hp hA
  match st, hp, hA with
  | ⟨t1, x⟩ :: r, hp, hA =>
    have hs := hA.2.2.2.1
    obtain ⟨htg, hp1⟩ := mmG_iff.mp hp
    have e2 : t1 = 1 := mm_beq htg
    subst e2
    have hz := mm_head hs
    have hA2 := hA.stk (mm_tail hs)
    have ex : (Int32.ofInt x).toInt = x := mm_t32 hz.1 hz.2
    have key := mm_lsw (G := fun off => ∃ tgt : Nat, (pc : Int) + off = (tgt : Int) ∧ W p l e R s m args below meth c H locs ((h 0 0).toNat - n0) ((h 0 1).toNat - z0) Qm (F0 m tgt lsA (r.map (mmVal B b g)))) (pcs := pcs) (pc := pc) (d := d)
      (fun t ht off ho => ⟨_, ho, hX _ ls r h H locs lsA ht hA2⟩) (fun hd => ⟨_, h1, hX _ ls r h H locs lsA hd hA2⟩) ps.toList ts hp1 hl h2
    obtain ⟨tgt, k1, k2⟩ := key
    exact lv_lookup hx hb hd hsorted (by rw [ex]) k1 k2
end MR2
end
section
/-! ===== mm: fields and rows of numbers ===== -/
section MR3
variable {sh : Int → Nat × Nat} {tg : Nat → Nat → Nat} {B b g : Nat} {aC : Nat → ClassId} {p : Program} {l : Launch} {e : Env} {R : Room} {s : State} {m : MethodId} {args : Array Value} {below : List Frame} {meth : Method} {c : Code} {H0 : Heap} {D : va_G} {cl : List vw_C} {nL n0 z0 : Nat} {Qm : State → Prop}
variable {pc : Nat} {k : mmKont} {cc : ByteArray} {wn : Int → Bool}
theorem mmWH.put {h : mmH} {H H' : Heap} {locs : List Loc} {x v : Int} {i j : Nat} (hW : mmWH sh tg B b g aC D cl H0 h H locs) (h1 : 1 ≤ x) (h2 : x < h 0 0) (z : H'.size = H.size) (oq : ∀ q : Nat, q ≠ B + x.toNat → H'[q]? = H[q]?)
    (hat : va_at D cl (B + x.toNat, mmE sh tg B b g aC x (mmS h x i v x)) H') (hv : mmOk (h 0 0) (mmTg sh tg x i, v)) : mmWH sh tg B b g aC D cl H0 (mmS h x i v) H' (locs ++ [⟨B + x.toNat, j⟩]) := by
  obtain ⟨w1, w2, w3, w4⟩ := hW
  have e0 : mmS h x i v 0 0 = h 0 0 := mmS_cell (by omega)
  refine ⟨?_, by rw [z, w2, e0], w3.put z oq ?_, mmOkH_put sh tg w4 h1 hv⟩
  · rw [← mmWs_put sh tg B b g aC h1 h2 rfl rfl]
    exact w1.set (mmWs_D sh tg B b g aC h) (mmWs_get sh tg B b g aC h1 h2) hat oq
  · show B + 1 ≤ B + x.toNat
    omega
theorem mmIn.put {ls st st' : List mmV} {h : mmH} {H H' : Heap} {locs : List Loc} {lsA : Array Slot} {x v : Int} {i j : Nat} (hA : mmIn sh tg B b g aC R H0 D cl nL n0 z0 ls st h H locs lsA) (h1 : 1 ≤ x) (h2 : x < h 0 0) (z : H'.size = H.size) (oq : ∀ q : Nat, q ≠ B + x.toNat → H'[q]? = H[q]?)
    (hat : va_at D cl (B + x.toNat, mmE sh tg B b g aC x (mmS h x i v x)) H') (hv : mmOk (h 0 0) (mmTg sh tg x i, v)) (hs : ∀ w ∈ st', mmOk (h 0 0) w) : mmIn sh tg B b g aC R H0 D cl nL n0 z0 ls st' (mmS h x i v) H' (locs ++ [⟨B + x.toNat, j⟩]) lsA := by
  have e0 : mmS h x i v 0 0 = h 0 0 := mmS_cell (by omega)
  have e1 : mmS h x i v 0 1 = h 0 1 := mmS_cell (by omega)
  exact ⟨hA.1, hA.2.1, by rw [e0]; exact hA.2.2.1, by rw [e0]; exact hs, hA.2.2.2.2.1.put h1 h2 z oq hat hv, by rw [e0]; exact hA.2.2.2.2.2.1, by rw [e1]; exact hA.2.2.2.2.2.2.1, by rw [e0]; exact hA.2.2.2.2.2.2.2.1, by rw [e1]; exact hA.2.2.2.2.2.2.2.2⟩
theorem mmIn.wh {ls st : List mmV} {h : mmH} {H : Heap} {locs : List Loc} {lsA : Array Slot} (hA : mmIn sh tg B b g aC R H0 D cl nL n0 z0 ls st h H locs lsA) : mmWH sh tg B b g aC D cl H0 h H locs := hA.2.2.2.2.1
theorem mmIn.okS {ls st : List mmV} {h : mmH} {H : Heap} {locs : List Loc} {lsA : Array Slot} (hA : mmIn sh tg B b g aC R H0 D cl nL n0 z0 ls st h H locs lsA) : ∀ v ∈ st, mmOk (h 0 0) v := hA.2.2.2.1
/-- a cell that is there -/
theorem mm_pos {n x : Int} {r : Nat} (hs0 : (sh 0).1 = 99) (ho : mmOk n (3, x)) (hr : (sh x).1 = r) (h9 : r ≠ 99) : 1 ≤ x ∧ x < n ∧ mmVal B b g (3, x) = .ref (B + x.toNat) := by
  have h1 : 0 ≤ x := ho.1
  have h2 : x < n := ho.2
  have h0 : x ≠ 0 := fun q => by rw [q, hs0] at hr; exact h9 hr.symm
  refine ⟨by omega, h2, ?_⟩
  simp only [mmVal, h0, if_false]
theorem mmE_o {x : Int} {f : Int → Int} {ci N : Nat} (h1 : (sh x).1 = ci) (hci : ci < 99) (hN : (sh x).2 = N) : mmE sh tg B b g aC x f = .inr (ci, (List.range N).map (fun s : Nat => mmVal B b g (tg ci s, f s))) := by
  unfold mmE
  rw [if_pos (by omega), h1, hN]
theorem mmE_a {x : Int} {f : Int → Int} {kd : Nat} (h1 : (sh x).1 = 100 + kd) : mmE sh tg B b g aC x f = .inl (aC kd, (sh x).2, mmAr B kd f) := by
  unfold mmE
  rw [if_neg (by omega), h1]
  have : 100 + kd - 100 = kd := by omega
  rw [this]
theorem mmTg_o {x : Int} {i ci : Nat} (h1 : (sh x).1 = ci) (hci : ci < 99) : mmTg sh tg x i = tg ci i := by
  unfold mmTg
  rw [if_pos (by omega), h1]
theorem mmTg_a {x : Int} {i kd : Nat} (h1 : (sh x).1 = 100 + kd) : mmTg sh tg x i = mmEt kd := by
  unfold mmTg
  rw [if_neg (by omega), h1]
  have : 100 + kd - 100 = kd := by omega
  rw [this]
theorem ks_get (hx : p.tables.exec = Jvm.exec) (hb : c.code = cc) {own C : String} {T : u_T} {ci N f index : Nat} {Ts : List Cond} {tys : List (ClassId × FieldType)} (hts : ∀ w ∈ Ts, w.before args s = true) (hin : ∀ w ∈ u_ws C T N, w ∈ Ts) (hown : s.vm.findClass own = some m.cls) (hK : va_K D cl tys s)
    (hc : cl[ci]? = some (C, T, N)) (hci : ci < 99) (hsh : ∀ x, (sh x).1 = ci → (sh x).2 = N) (hs0 : (sh 0).1 = 99) (hf : f < N) (hlink : (Cond.fieldLink own index (T f).1 (T f).2.1 (T f).2.2.1).before args s = true) (hd : decode cc pc = .ok (.getfield index, 3))
    (hk : mmKS sh tg B b g aC p l e R s m args below meth c H0 D cl nL n0 z0 Qm (pc + 3) k) : mmKS sh tg B b g aC p l e R s m args below meth c H0 D cl nL n0 z0 Qm pc (oGet sh tg (fun _ _ => none) ci f k) := by
  intro ls st h H locs lsA hp hA
  match st, hp, hA with
  | ⟨t, x⟩ :: r, hp, hA =>
    obtain ⟨ht, hp⟩ := mmG_iff.mp hp
    obtain ⟨hg1, hp⟩ := mmG_iff.mp hp
    have h1 : (sh x).1 = ci := mm_beq hg1
    have e1 : t = 3 := mm_beq ht
    subst e1
    simp only [] at h1 hp
    have hs := hA.okS
    obtain ⟨g1, g2, g3⟩ := mm_pos (B := B) (b := b) (g := g) hs0 (mm_head hs) h1 (by omega)
    have hW := hA.wh
    have he := mmWs_get sh tg B b g aC g1 g2
    rw [mmE_o h1 hci (hsh x h1)] at he
    have hok : mmOk (h 0 0) (tg ci f, h x f) := by
      have := (hW.2.2.2.2.2 x g1 g2).2 f (by rw [hsh x h1]; exact hf)
      rw [mmTg_o h1 hci] at this
      exact this
    rw [List.map_cons, g3]
    exact va_get hx hb hts hin hown hK hW.1 (x.toNat - 1) he hc f hf hlink (fun _ q => q) (by simp [hf]) hd (hk ls _ h H locs lsA hp (hA.stk (mm_cons hok (mm_tail hs))))
theorem mm_setR {N f : Nat} {V : Nat → Value} {w : Value} {V' : Nat → Value} (he : V' f = w) (hne : ∀ j, j ≠ f → V' j = V j) : ((List.range N).map V).set f w = (List.range N).map V' := by
  apply List.ext_getElem?
  intro i
  by_cases hi : i = f
  · subst hi
    by_cases hl : i < N
    · rw [List.getElem?_set_self (by simp [hl])]
      simp [hl, he]
    · rw [List.getElem?_eq_none (by simp; omega), List.getElem?_eq_none (by simp; omega)]
  · rw [List.getElem?_set_ne (Ne.symm hi)]
    by_cases hl : i < N
    · simp [hl, hne i hi]
    · rw [List.getElem?_eq_none (by simp; omega), List.getElem?_eq_none (by simp; omega)]
/-- what may be stored in a field of a type -/
def mmTy : FieldType → Nat
  | .long => 2
  | .object _ => 3
  | .array _ => 3
  | .int => 1
  | _ => 0
theorem mm_fit {ty : FieldType} {n x : Int} (h : mmOk n (mmTy ty, x)) (h0 : mmTy ty ≠ 0) : narrow ty (mmVal B b g (mmTy ty, x)) = mmVal B b g (mmTy ty, x) ∧ fits ty (mmVal B b g (mmTy ty, x)) = true := by
  cases ty with
  | int => exact ⟨rfl, rfl⟩
  | long => exact ⟨rfl, rfl⟩
  | object C => by_cases e : x = 0 <;> simp [mmVal, mmTy, e, narrow, fits]
  | array t => by_cases e : x = 0 <;> simp [mmVal, mmTy, e, narrow, fits]
  | _ => exact absurd rfl h0
theorem ks_put (hx : p.tables.exec = Jvm.exec) (hb : c.code = cc) {own C : String} {T : u_T} {ci N f index : Nat} {Ts : List Cond} {tys : List (ClassId × FieldType)} (hts : ∀ w ∈ Ts, w.before args s = true) (hin : ∀ w ∈ u_ws C T N, w ∈ Ts) (ty : Nat → FieldType) (hty : ∀ k, k < N → parseFieldDescriptor (T k).2.2.1 = some (ty k)) (hnm : ∀ a, a < N → ∀ b, b < N → a ≠ b → (T a).2.1 ≠ (T b).2.1) (hown : s.vm.findClass own = some m.cls) (hK : va_K D cl tys s)
    (hc : cl[ci]? = some (C, T, N)) (hci : ci < 99) (hsh : ∀ x, (sh x).1 = ci → (sh x).2 = N) (hs0 : (sh 0).1 = 99) (hf : f < N) (htg : tg ci f = mmTy (ty f)) (ht0 : tg ci f ≠ 0) (hlink : (Cond.fieldLink own index (T f).1 (T f).2.1 (T f).2.2.1).before args s = true) (hfin : (T f).2.2.2 = true → meth.name = "<init>" ∧ (T f).1 = own) (hd : decode cc pc = .ok (.putfield index, 3))
    (hk : mmKS sh tg B b g aC p l e R s m args below meth c H0 D cl nL n0 z0 Qm (pc + 3) k) : mmKS sh tg B b g aC p l e R s m args below meth c H0 D cl nL n0 z0 Qm pc (oPut sh tg (fun _ _ => none) wn ci f k) := by
  intro ls st h H locs lsA hp hA
  match st, hp, hA with
  | ⟨tw, w⟩ :: ⟨t, x⟩ :: r, hp, hA =>
    obtain ⟨ht, hp⟩ := mmG_iff.mp hp
    obtain ⟨hg1, hp⟩ := mmG_iff.mp hp
    simp only [Bool.and_eq_true] at hg1
    have h1 : (sh x).1 = ci := mm_beq hg1.1
    simp only [Bool.and_eq_true] at ht
    have e1 : t = 3 := mm_beq ht.2
    have e2 : tw = tg ci f := mm_beq ht.1
    subst e1; subst e2
    simp only [] at h1 hp
    have hs := hA.okS
    obtain ⟨g1, g2, g3⟩ := mm_pos (B := B) (b := b) (g := g) hs0 (mm_head (mm_tail hs)) h1 (by omega)
    have hW := hA.wh
    have he := mmWs_get sh tg B b g aC g1 g2
    rw [mmE_o h1 hci (hsh x h1)] at he
    have hwok : mmOk (h 0 0) (tg ci f, w) := mm_head hs
    obtain ⟨n1, n2⟩ := mm_fit (B := B) (b := b) (g := g) (ty := ty f) (by rw [← htg]; exact hwok) (by rw [← htg]; exact ht0)
    rw [← htg] at n1 n2
    rw [List.map_cons, List.map_cons, g3]
    have hap := va_apart (own := own) hts hin ty hty hnm hK hc
    obtain ⟨r2, h2, cell, q1, q2, q3, q4⟩ := hW.1 _ _ he
    have hr : r2 = (C, T, N) := Option.some.inj (h2.symm.trans hc)
    subst hr
    obtain ⟨hS, hfc, kC, hkC, hkind⟩ := hK.1 ci _ hc
    obtain ⟨cf, kf, fi, fd, hi, hsl⟩ := hS f hf
    have hlay := hts _ (hin _ (u_in_lay hf))
    unfold u_lay at hlay
    have hst := (u_facts hfc hkC (u_lays hts hin hf) hi).1
    have key : ∀ H' : Heap, H'[B + x.toNat]? = some (cell.setSlot fd.slot (mmVal B b g (tg ci f, w))) → H'.size = H.size → (∀ q, q ≠ B + x.toNat → H'[q]? = H[q]?) → W p l e R s m args below meth c H' (locs ++ [⟨B + x.toNat, fd.slot⟩]) ((h 0 0).toNat - n0) ((h 0 1).toNat - z0) Qm (F0 m (pc + 3) lsA (r.map (mmVal B b g))) := by
      intro H' f1 f2 f3
      have hat : va_at D cl (B + x.toNat, mmE sh tg B b g aC x (mmS h x f w x)) H' := by
        rw [mmE_o h1 hci (hsh x h1)]
        rw [hsl] at f1
        refine ⟨_, hc, ?_⟩
        have hl : f < ((List.range N).map (fun s : Nat => mmVal B b g (tg ci s, h x s))).length := by simp [hf]
        have hset : ((List.range N).map (fun s : Nat => mmVal B b g (tg ci s, h x s))).set f (mmVal B b g (tg ci f, w)) = (List.range N).map (fun s : Nat => mmVal B b g (tg ci s, mmS h x f w x s)) := by
          refine mm_setR ?_ (fun j hj => ?_)
          · rw [mmS_self]
          · rw [mmS_slot, if_neg (by omega)]
        rw [← hset]
        exact t_OB.to (V := updV (vp_V ((List.range N).map (fun s : Nat => mmVal B b g (tg ci s, h x s)))) f (mmVal B b g (tg ci f, w))) ⟨_, f1, q2, q3, t_set q4 hap hf _⟩ (fun j _ => vp_updV_set hl _ j)
      have e0 : mmS h x f w 0 0 = h 0 0 := mmS_cell (by omega)
      have e1 : mmS h x f w 0 1 = h 0 1 := mmS_cell (by omega)
      have := hk ls r _ H' _ lsA hp (hA.put (st' := r) (j := fd.slot) g1 g2 f2 f3 hat (by rw [mmTg_o h1 hci]; exact hwok) (mm_tail (mm_tail hs)))
      rw [e0, e1] at this
      exact this
    by_cases hfn : (T f).2.2.2 = true
    · rw [if_pos hfn] at hlay
      obtain ⟨hin2, hdecl⟩ := hfin hfn
      have hcf : m.cls = cf := by
        obtain ⟨_, _, c', _, _, _, -, -, hf', -, -, -, hown2, -⟩ := Cond.laysFinal_spec hlay
        have e1 : c' = cf := by have := hi.symm.trans hf'; simp at this; exact this.1.symm
        rw [hdecl] at hown2
        rw [← e1]; exact Option.some.inj (hown.symm.trans hown2)
      have h6 := u_fits hfc hkC hkind (Or.inr hlay) hi (hty f hf) n1 n2
      exact W.putFinK hx hb hown hlink hi hst hcf hin2 (by rw [q2]; exact h6) q1 q3 (by rw [hsl]; exact k2_hasslot (q4 f hf)) rfl rfl hd key
    · rw [if_neg hfn] at hlay
      have h6 := u_store hfc hkC hkind hlay hi (hty f hf) n1 n2
      exact W.putK hx hb (f := fd) ⟨hown, hlink, ⟨_, _, _, hi⟩, hst⟩ (by rw [q2]; exact h6) q1 q3 (by rw [hsl]; exact k2_hasslot (q4 f hf)) rfl rfl hd key
end MR3
end
section
/-! ===== mm: rows of numbers ===== -/
section MR4
variable {sh : Int → Nat × Nat} {tg : Nat → Nat → Nat} {B b g : Nat} {aC : Nat → ClassId} {p : Program} {l : Launch} {e : Env} {R : Room} {s : State} {m : MethodId} {args : Array Value} {below : List Frame} {meth : Method} {c : Code} {H0 : Heap} {D : va_G} {cl : List vw_C} {nL n0 z0 : Nat} {Qm : State → Prop}
variable {pc : Nat} {k : mmKont} {cc : ByteArray} {wn : Int → Bool}
def mmKt : Nat → FieldType
  | 0 => .int
  | 1 => .long
  | 2 => .char
  | 3 => .boolean
  | 4 => .array .int
  | _ => .object "TileHeel$Roofs"
theorem mmAr_cell (cA : ClassId) (n kd : Nat) (f : Int → Int) : vp_cell cA (n, mmAr B kd f) = arrV cA n (fun j : Nat => mmVal B b g (mmEt kd, f j)) := by
  match kd with
  | 0 => rfl
  | 1 => rfl
  | 2 => rfl
  | 3 => rfl
  | 4 =>
    show arrV cA n (fun j : Nat => va_rf (if f j = 0 then none else some (B + (f j).toNat))) = _
    congr 1
    funext j
    by_cases e : f j = 0 <;> simp [va_rf, mmVal, mmEt, e]
  | 5 =>
    show arrV cA n (fun j : Nat => va_rf (if f j = 0 then none else some (B + (f j).toNat))) = _
    congr 1
    funext j
    by_cases e : f j = 0 <;> simp [va_rf, mmVal, mmEt, e]
  | n + 6 => rfl
/-- the row of numbers that is at a cell -/
theorem mm_arr {h : mmH} {H : Heap} {locs : List Loc} {x : Int} {kd : Nat} (hW : mmWH sh tg B b g aC D cl H0 h H locs) (g1 : 1 ≤ x) (g2 : x < h 0 0) (h1 : (sh x).1 = 100 + kd) : H[B + x.toNat]? = some (arrV (aC kd) (sh x).2 (fun j : Nat => mmVal B b g (mmEt kd, h x j))) := by
  have he := mmWs_get sh tg B b g aC g1 g2
  rw [mmE_a h1] at he
  have := hW.1 _ _ he
  rw [← mmAr_cell]
  exact this
theorem ks_ald (hx : p.tables.exec = Jvm.exec) (hb : c.code = cc) {kd : Nat} {tys : List (ClassId × FieldType)} (hK : va_K D cl tys s) (hs0 : (sh 0).1 = 99) (hty : tys[kd]? = some (aC kd, mmKt kd))
    (hd : (kd = 0 ∧ decode cc pc = .ok (.iaload, 1)) ∨ (kd = 1 ∧ decode cc pc = .ok (.laload, 1)) ∨ (kd = 2 ∧ decode cc pc = .ok (.caload, 1)) ∨ (kd = 3 ∧ decode cc pc = .ok (.baload, 1)) ∨ (kd = 4 ∧ decode cc pc = .ok (.aaload, 1)) ∨ (kd = 5 ∧ decode cc pc = .ok (.aaload, 1)))
    (hk : mmKS sh tg B b g aC p l e R s m args below meth c H0 D cl nL n0 z0 Qm (pc + 1) k) : mmKS sh tg B b g aC p l e R s m args below meth c H0 D cl nL n0 z0 Qm pc (oAld sh (fun _ _ => none) kd k) := by
  intro ls st h H locs lsA hp hA
  match st, hp, hA with
  | ⟨ti, i⟩ :: ⟨t, x⟩ :: r, hp, hA =>
    obtain ⟨ht, hp⟩ := mmG_iff.mp hp
    obtain ⟨hg1, hp⟩ := mmG_iff.mp hp
    obtain ⟨⟨h2, h3⟩, hp⟩ := mmD_iff.mp hp
    have h1 : (sh x).1 = 100 + kd := mm_beq hg1
    simp only [Bool.and_eq_true] at ht
    have e1 : t = 3 := mm_beq ht.2
    have e2 : ti = 1 := mm_beq ht.1
    subst e1; subst e2
    simp only [] at h1 h2 h3 hp
    have hs := hA.okS
    obtain ⟨g1, g2, g3⟩ := mm_pos (B := B) (b := b) (g := g) hs0 (mm_head (mm_tail hs)) h1 (by omega)
    have hW := hA.wh
    obtain ⟨hlen, hcont⟩ := hW.2.2.2.2.2 x g1 g2
    have hcell := mm_arr hW g1 g2 h1
    have hok : mmOk (h 0 0) (mmEt kd, h x i) := by
      have := hcont i.toNat (by omega)
      rw [mmTg_a h1] at this
      have e : ((i.toNat : Nat) : Int) = i := by omega
      rw [e] at this
      exact this
    have hin : ¬ (Int32.ofInt i < 0 ∨ (arrV (aC kd) (sh x).2 (fun j : Nat => mmVal B b g (mmEt kd, h x j))).slots.size ≤ (Int32.ofInt i).toNatClampNeg) := by
      rw [arrV_size]
      exact mm_in h2 (by omega) hlen
    have hv : (arrV (aC kd) (sh x).2 (fun j : Nat => mmVal B b g (mmEt kd, h x j))).slots[(Int32.ofInt i).toNatClampNeg]? = some (mmVal B b g (mmEt kd, h x i)) := by
      rw [mm_cl h2 (by omega), arrV_read _ _ (by omega)]
      have e : ((i.toNat : Nat) : Int) = i := by omega
      rw [e]
    have hAr : ArrOfT s (aC kd) (mmKt kd) := (hK.2 kd _ hty).1
    have h4 := hk ls _ h H locs lsA hp (hA.stk (mm_cons hok (mm_tail (mm_tail hs))))
    rw [List.map_cons, List.map_cons, g3]
    rw [List.map_cons] at h4
    rcases hd with ⟨rfl, hd⟩ | ⟨rfl, hd⟩ | ⟨rfl, hd⟩ | ⟨rfl, hd⟩ | ⟨rfl, hd⟩ | ⟨rfl, hd⟩
    · exact W.iald hx hb hcell (hAr _ _) (fun q => by cases q) hin hv rfl rfl hd h4
    · exact W.lald hx hb hcell (hAr _ _) (fun q => by cases q) hin hv rfl rfl hd h4
    · exact W.cald hx hb hcell (hAr _ _) (fun q => by cases q) hin hv rfl rfl hd h4
    · exact W.zald hx hb hcell (hAr _ _) (fun q => by cases q) hin hv rfl rfl hd h4
    · exact W.aald hx hb hcell (hAr _ _) rfl (fun q => by cases q) hin hv rfl rfl hd h4
    · exact W.aald hx hb hcell (hAr _ _) rfl (fun q => by cases q) hin hv rfl rfl hd h4
theorem mm_nN {x : Int} (h : 0 ≤ x) : Int32.ofInt x = nI x.toNat := by
  have e : x = ((x.toNat : Nat) : Int) := by omega
  rw [e]
  exact Int32.ofInt_eq_ofNat
theorem ks_ast (hx : p.tables.exec = Jvm.exec) (hb : c.code = cc) {kd : Nat} {rT : u_T} {rN : Nat} {tys : List (ClassId × FieldType)} (hK : va_K D cl tys s) (hs0 : (sh 0).1 = 99) (hty : tys[kd]? = some (aC kd, mmKt kd))
    (hr4 : cl[4]? = some ("TileHeel$Roofs", rT, rN)) (hsh4 : ∀ x, (sh x).1 = 4 → (sh x).2 = rN)
    (hd : (kd = 0 ∧ decode cc pc = .ok (.iastore, 1)) ∨ (kd = 1 ∧ decode cc pc = .ok (.lastore, 1)) ∨ (kd = 2 ∧ decode cc pc = .ok (.castore, 1)) ∨ (kd = 3 ∧ decode cc pc = .ok (.bastore, 1)) ∨ (kd = 5 ∧ decode cc pc = .ok (.aastore, 1)))
    (hk : mmKS sh tg B b g aC p l e R s m args below meth c H0 D cl nL n0 z0 Qm (pc + 1) k) : mmKS sh tg B b g aC p l e R s m args below meth c H0 D cl nL n0 z0 Qm pc (oAst sh (fun _ _ => none) wn kd k) := by
  intro ls st h H locs lsA hp hA
  match st, hp, hA with
  | ⟨tv, v⟩ :: ⟨ti, i⟩ :: ⟨t, x⟩ :: r, hp, hA =>
    obtain ⟨ht, hp⟩ := mmG_iff.mp hp
    obtain ⟨hg1, hp⟩ := mmG_iff.mp hp
    obtain ⟨⟨h2, h3⟩, hp⟩ := mmD_iff.mp hp
    obtain ⟨hf, hp⟩ := mmG_iff.mp hp
    simp only [Bool.and_eq_true] at hg1
    have h1 : (sh x).1 = 100 + kd := mm_beq hg1.1
    simp only [Bool.and_eq_true] at ht
    have e1 : t = 3 := mm_beq ht.2.2
    have e2 : ti = 1 := mm_beq ht.2.1
    have e3 : tv = mmEt kd := mm_beq ht.1
    subst e1; subst e2; subst e3
    simp only [] at h1 h2 h3 hf hp
    have hs := hA.okS
    obtain ⟨g1, g2, g3⟩ := mm_pos (B := B) (b := b) (g := g) hs0 (mm_head (mm_tail (mm_tail hs))) h1 (by omega)
    have hW := hA.wh
    obtain ⟨hlen, hcont⟩ := hW.2.2.2.2.2 x g1 g2
    have hcell := mm_arr hW g1 g2 h1
    have hin : ¬ (Int32.ofInt i < 0 ∨ (arrV (aC kd) (sh x).2 (fun j : Nat => mmVal B b g (mmEt kd, h x j))).slots.size ≤ (Int32.ofInt i).toNatClampNeg) := by
      rw [arrV_size]
      exact mm_in h2 (by omega) hlen
    have hAr : ArrOfT s (aC kd) (mmKt kd) := (hK.2 kd _ hty).1
    have hvok : mmOk (h 0 0) (mmEt kd, v) := mm_head hs
    have ei : (Int32.ofInt i).toNatClampNeg = i.toNat := mm_cl h2 (by omega)
    have ez : ((i.toNat : Nat) : Int) = i := by omega
    have key : ∀ H' : Heap, H'[B + x.toNat]? = some ((arrV (aC kd) (sh x).2 (fun j : Nat => mmVal B b g (mmEt kd, h x j))).setSlot (Int32.ofInt i).toNatClampNeg (mmVal B b g (mmEt kd, v))) → H'.size = H.size → (∀ q, q ≠ B + x.toNat → H'[q]? = H[q]?) →
        W p l e R s m args below meth c H' (locs ++ [⟨B + x.toNat, (Int32.ofInt i).toNatClampNeg⟩]) ((h 0 0).toNat - n0) ((h 0 1).toNat - z0) Qm (F0 m (pc + 1) lsA (r.map (mmVal B b g))) := by
      intro H' f1 f2 f3
      have hat : va_at D cl (B + x.toNat, mmE sh tg B b g aC x (mmS h x i.toNat v x)) H' := by
        rw [mmE_a h1]
        show H'[B + x.toNat]? = some (vp_cell _ _)
        rw [mmAr_cell (b := b) (g := g), f1, arrV_store, ei]
        congr 2
        funext j
        unfold updV
        by_cases hj : j = i.toNat
        · rw [if_pos hj, hj, mmS_self]
        · rw [if_neg hj, mmS_slot, if_neg (by omega)]
      have e0 : mmS h x i v 0 0 = h 0 0 := mmS_cell (by omega)
      have e1 : mmS h x i v 0 1 = h 0 1 := mmS_cell (by omega)
      have hp2 := hA.put (st' := r) (j := (Int32.ofInt i).toNatClampNeg) (i := i.toNat) (v := v) g1 g2 f2 f3 hat (by rw [mmTg_a h1]; exact hvok) (mm_tail (mm_tail (mm_tail hs)))
      rw [ez] at hp2
      have := hk ls r _ H' _ lsA hp hp2
      rw [e0, e1] at this
      exact this
    rw [List.map_cons, List.map_cons, List.map_cons, g3]
    rcases hd with ⟨rfl, hd⟩ | ⟨rfl, hd⟩ | ⟨rfl, hd⟩ | ⟨rfl, hd⟩ | ⟨rfl, hd⟩
    · exact W.iast hx hb hcell (hAr _ _) (fun q => by cases q) hin rfl rfl hd key
    · exact W.last hx hb hcell (hAr _ _) (fun q => by cases q) hin rfl rfl hd key
    · refine W.cast hx hb hcell (hAr _ _) (fun q => by cases q) hin rfl rfl hd ?_
      obtain ⟨hf1, hf2⟩ := of_decide_eq_true (show decide (0 ≤ v ∧ v < 65536) = true from hf)
      have en : narrow .char (.int (Int32.ofInt v)) = .int (Int32.ofInt v) := by
        rw [mm_nN hf1]
        exact (pk_charN (by omega)).1
      rw [en]
      exact key
    · refine W.zast hx hb hcell (hAr _ _) (fun q => by cases q) hin rfl rfl hd ?_
      have en : narrow .boolean (.int (Int32.ofInt v)) = .int (Int32.ofInt v) := by
        rcases of_decide_eq_true (show decide (v = 0 ∨ v = 1) = true from hf) with hf | hf
        · have : v = 0 := hf
          subst this
          decide
        · have : v = 1 := hf
          subst this
          decide
      rw [en]
      exact key
    · have hf2 : (sh v).1 = 4 := mm_beq hf
      obtain ⟨v1, v2, v3⟩ := mm_pos (B := B) (b := b) (g := g) hs0 hvok hf2 (by omega)
      have hev := mmWs_get sh tg B b g aC v1 v2
      rw [mmE_o hf2 (by omega) (hsh4 v hf2)] at hev
      obtain ⟨r', hr', cellV, c1, c2, c3, -⟩ := hW.1 _ _ hev
      have hcls := (hK.1 4 _ hr4).2
      obtain ⟨kA, comp, k1, k2, k3, -⟩ := (hK.2 5 _ hty).2
      have hcomp : comp = D.1 4 := Option.some.inj (k3.symm.trans hcls.1)
      subst hcomp
      obtain ⟨kC, hkC, -⟩ := hcls.2
      have v3' : mmVal B b g (mmEt 5, v) = .ref (B + v.toNat) := v3
      rw [v3'] at key ⊢
      refine W.aast hx hb hcell (fun q h => by cases h) (fun h => by cases h) k1 k2 rfl hkC ⟨fun q => hin (Or.inl q), ?_⟩ c1 (fun q h => by rw [c3] at h; cases h) (by rw [c2]; exact hkC) (by rw [c2]; exact va_assign hcls) rfl rfl hd key
      exact Nat.not_le.mp (fun q => hin (Or.inr q))
theorem ks_len (hx : p.tables.exec = Jvm.exec) (hb : c.code = cc) {tys : List (ClassId × FieldType)} (hK : va_K D cl tys s) (hs0 : (sh 0).1 = 99) (hty : ∀ x, 100 ≤ (sh x).1 → ∃ ty, tys[(sh x).1 - 100]? = some (aC ((sh x).1 - 100), ty)) (hd : decode cc pc = .ok (.arraylength, 1))
    (hk : mmKS sh tg B b g aC p l e R s m args below meth c H0 D cl nL n0 z0 Qm (pc + 1) k) : mmKS sh tg B b g aC p l e R s m args below meth c H0 D cl nL n0 z0 Qm pc (oLen sh k) := by
  intro ls st h H locs lsA hp hA
  match st, hp, hA with
  | ⟨t, x⟩ :: r, hp, hA =>
    obtain ⟨ht, hp⟩ := mmG_iff.mp hp
    obtain ⟨hg1, hp⟩ := mmG_iff.mp hp
    have h1 : 100 ≤ (sh x).1 := mm_ble hg1
    have e1 : t = 3 := mm_beq ht
    subst e1
    simp only [] at h1 hp
    have hs := hA.okS
    obtain ⟨g1, g2, g3⟩ := mm_pos (B := B) (b := b) (g := g) hs0 (mm_head hs) rfl (by omega)
    have hW := hA.wh
    obtain ⟨hlen, -⟩ := hW.2.2.2.2.2 x g1 g2
    have hcell := mm_arr (kd := (sh x).1 - 100) hW g1 g2 (by omega)
    obtain ⟨ty, hty⟩ := hty x h1
    have hAr := (hK.2 _ _ hty).1
    have h4 := hk ls _ h H locs lsA hp (hA.stk (mm_cons (show mmOk (h 0 0) (1, ((sh x).2 : Int)) from ⟨by show _ ≤ ((sh x).2 : Int); omega, by show ((sh x).2 : Int) < _; omega⟩) (mm_tail hs)))
    rw [List.map_cons] at h4 ⊢
    rw [g3]
    refine W.alen hx hb hcell (hAr _ _) ?_ rfl rfl hd h4
    rw [arrV_size]
    exact Int32.ofInt_eq_ofNat.symm
end MR4
end
section
/-! ===== mm: a call, a return ===== -/
/-- a method's end: its value -/
def mmRv (B b g : Nat) (rt : Nat) (x : Int) : Option Value := if rt = 0 then none else some (mmVal B b g (mmRt rt, x))
/-- the tables' rows of rows: no words that are kept by themselves -/
def mmAO (U : State) : Prop := (Cond.arrayOver (.object "TileHeel$Roofs")).before #[] U = true ∧ (Cond.arrayOver (.array .int)).before #[] U = true
theorem mm_over_moved {ty : FieldType} {u U : State} (hvm : u.vm.Alike U.vm) (h : (Cond.arrayOver (.array ty)).before #[] u = true) : (Cond.arrayOver (.array ty)).before #[] U = true := by
  unfold Cond.before Cond.holds at h ⊢
  simp only [Cond.value, beq_iff_eq] at h ⊢
  obtain ⟨comp, hc, h2⟩ := Option.bind_eq_some_iff.mp h
  obtain ⟨c, hi, h3⟩ := Option.bind_eq_some_iff.mp h2
  obtain ⟨k, hk, hb⟩ := Option.map_eq_some_iff.mp h3
  obtain ⟨k', hk', he⟩ := hvm.2.2 _ _ hk
  have hi2 : (U.vm.classes.findIdx? fun (x : Class) => match x.kind with | .array component _ => component == comp | _ => false) = some c := by
    refine Eq.trans (va_idx_bare U.vm comp).symm ?_
    have hbe : U.vm.bare = u.vm.bare := by first | exact hvm.bare_eq | exact hvm.bare_eq.symm
    rw [hbe]
    exact (va_idx_bare u.vm comp).trans hi
  have hkd : k'.kind = k.kind := by rw [he]
  have hf : ∀ n, U.vm.findClass n = u.vm.findClass n := fun n => by rw [hvm.findClass]
  refine Option.bind_eq_some_iff.mpr ⟨comp, by rw [hf]; exact hc, Option.bind_eq_some_iff.mpr ⟨c, hi2, Option.map_eq_some_iff.mpr ⟨k', hk', ?_⟩⟩⟩
  rw [hkd, hf]
  exact hb
theorem mmAO.moved {u U : State} (hvm : u.vm.Alike U.vm) (h : mmAO u) : mmAO U := ⟨(va_AO.moved hvm (va_AO.of h.1)).use, mm_over_moved hvm h.2⟩
def mmKA (D : va_G) (cl : List vw_C) (tys : List (ClassId × FieldType)) (U : State) : Prop := va_K D cl tys U ∧ mmAO U
theorem mmKA.moved {D : va_G} {cl : List vw_C} {tys : List (ClassId × FieldType)} {u U : State} (hvm : u.vm.Alike U.vm) (h : mmKA D cl tys u) : mmKA D cl tys U := ⟨va_K.moved hvm h.1, h.2.moved hvm⟩
/-- the world at a method's start and end -/
def mmWd (sh : Int → Nat × Nat) (tg : Nat → Nat → Nat) (B b g : Nat) (aC : Nat → ClassId) (D : va_G) (cl : List vw_C) (tys : List (ClassId × FieldType)) (h : mmH) (U : State) : Prop :=
  va_P D cl (mmWs sh tg B b g aC h) U.heap ∧ U.heap.size = B + (h 0 0).toNat ∧ mmKA D cl tys U ∧ mmOkH sh tg h
def mmAv (B b g : Nat) (ts : List Nat) (as : List Int) : List Value := (List.zip ts as).map (fun q => mmVal B b g q)
def mmQc (sh : Int → Nat × Nat) (tg : Nat → Nat → Nat) (B b g : Nat) (aC : Nat → ClassId) (D : va_G) (cl : List vw_C) (tys : List (ClassId × FieldType)) (rt mc ms : Nat) (h : mmH) (Q : Int → mmH → Prop) : Array Value → State → Outcome → State → Prop := fun _ st o t =>
  (∃ (x : Int) (h' : mmH), o = .returned (mmRv B b g rt x) ∧ Q x h' ∧ mmOk (h' 0 0) (mmRt rt, x) ∧ (h' 0 0 = h 0 0 + mc ∧ h' 0 1 = h 0 1 + ms) ∧ mmWd sh tg B b g aC D cl tys h' t) ∧ va_F (mmA B) st t
/-- a method's contract -/
def mmMet (sh : Int → Nat × Nat) (tg : Nat → Nat → Nat) (B b g : Nat) (aC : Nat → ClassId) (D : va_G) (cl : List vw_C) (tys : List (ClassId × FieldType)) (l : Launch) (y : MethodName) (ws : List Cond) (rm : Room) (ts : List Nat) (rt mc ms : Nat) (as : List Int) (h : mmH) (Q : Int → mmH → Prop) : Prop :=
  as.length = ts.length → (∀ q ∈ List.zip ts as, mmOk (h 0 0) q) → Met l y ws rm (va_Pc (mmAv B b g ts as) (mmWd sh tg B b g aC D cl tys h)) (mmQc sh tg B b g aC D cl tys rt mc ms h Q) mc ms (mmA B)
section MR5
variable {sh : Int → Nat × Nat} {tg : Nat → Nat → Nat} {B b g : Nat} {aC : Nat → ClassId} {p : Program} {l : Launch} {e : Env} {R : Room} {s : State} {m : MethodId} {args : Array Value} {below : List Frame} {meth : Method} {c : Code} {H0 : Heap} {D : va_G} {cl : List vw_C} {nL n0 z0 : Nat} {Qm : State → Prop}
variable {pc : Nat} {k : mmKont} {cc : ByteArray} {wn : Int → Bool} {tys : List (ClassId × FieldType)}
theorem mmPop_spec : ∀ (ts : List Nat) (st : List mmV) (acc as : List Int) (r : List mmV), mmPop ts st acc = some (as, r) → ∃ bs : List Int, as = bs.reverse ++ acc ∧ bs.length = ts.length ∧ st = List.zip ts bs ++ r
  | [], st, acc, as, r, h => by
    simp only [mmPop, Option.some.injEq, Prod.mk.injEq] at h
    exact ⟨[], by rw [h.1]; rfl, rfl, by rw [h.2]; rfl⟩
  | t :: ts, [], acc, as, r, h => by simp [mmPop] at h
  | t :: ts, v :: st, acc, as, r, h => by
    unfold mmPop at h
    cases e : Nat.beq v.1 t with
    | false => rw [e] at h; simp at h
    | true =>
      rw [e] at h
      simp only [cond_true] at h
      obtain ⟨bs, h1, h2, h3⟩ := mmPop_spec ts st (v.2 :: acc) as r h
      have ev : v.1 = t := mm_beq e
      refine ⟨v.2 :: bs, by rw [h1]; simp, by simp [h2], ?_⟩
      rw [h3, ← ev]
      rfl
theorem mm_zipR : ∀ (ts : List Nat) (bs : List Int), bs.length = ts.length → (List.zip ts bs).reverse = List.zip ts.reverse bs.reverse
  | [], bs, h => by simp
  | t :: ts, [], h => by simp at h
  | t :: ts, x :: bs, h => by
    have hl : bs.length = ts.length := by simpa using h
    rw [List.zip_cons_cons, List.reverse_cons, List.reverse_cons, List.reverse_cons, mm_zipR ts bs hl, List.zip_append (by simp [hl])]
    rfl
/-- what a call finds on the stack -/
theorem mm_args {ts : List Nat} {st r : List mmV} {as : List Int} {n : Int} (h : mmPop ts st [] = some (as, r)) (hs : ∀ v ∈ st, mmOk n v) :
    as.length = ts.reverse.length ∧ (∀ q ∈ List.zip ts.reverse as, mmOk n q) ∧ (∀ q ∈ r, mmOk n q) ∧ st.map (mmVal B b g) = (mmAv B b g ts.reverse as).reverse ++ r.map (mmVal B b g) := by
  obtain ⟨bs, h1, h2, h3⟩ := mmPop_spec ts st [] as r h
  rw [List.append_nil] at h1
  have e := mm_zipR ts bs h2
  rw [h1, ← e]
  refine ⟨by simp [h2], fun q hq => hs q (by rw [h3]; exact List.mem_append_left _ (List.mem_reverse.mp hq)), fun q hq => hs q (by rw [h3]; exact List.mem_append_right _ hq), ?_⟩
  rw [h3, List.map_append]
  congr 1
  unfold mmAv
  rw [← e, List.map_reverse, List.reverse_reverse]
theorem mm_blind {av : List Value} {h : mmH} : FrameBlind (va_Pc av (mmWd sh tg B b g aC D cl tys h)) := by
  intro a U gg mk q
  obtain ⟨q1, q2, q3, q4, q5⟩ := q
  exact ⟨q1, q2, q3, mmKA.moved (u := U) (U := U.calling gg mk a) (Vm.Alike.refl U.vm) q4, q5⟩
theorem mm_cat {r : List mmV} : ((r.map (mmVal B b g)).map fun v => v.category).sum = mmCat r := by
  induction r with
  | nil => rfl
  | cons v r ih =>
    rw [List.map_cons, List.map_cons, List.sum_cons, ih, mmVal_cat]
    show _ = (bif Nat.beq v.1 2 then 2 else 1) + mmCat r
    congr 1
    cases e : Nat.beq v.1 2 with
    | true => rw [if_pos (mm_beq e)]; rfl
    | false => rw [if_neg (fun q => by rw [q] at e; cases e)]; rfl
/-- behind a call: the caller goes on -/
theorem mm_after {y : Array Value} {rt mc ms : Nat} {h : mmH} {Q : Int → mmH → Prop} {H : Heap} {locs : List Loc} {ls st r : List mmV} {lsA : Array Slot} (hKx : va_K D cl tys s)
    (hrun : va_Run p l e R s m args below meth c H locs ((h 0 0).toNat - n0) ((h 0 1).toNat - z0) mc ms (F0 m pc lsA (st.map (mmVal B b g))) (r.map (mmVal B b g)) (mmQc sh tg B b g aC D cl tys rt mc ms h Q y) (mmA B))
    (hA : mmIn sh tg B b g aC R H0 D cl nL n0 z0 ls st h H locs lsA) (hr : ∀ q ∈ r, mmOk (h 0 0) q) (hcap : (h 0 0).toNat - n0 + mc ≤ R.cells ∧ (h 0 1).toNat - z0 + ms ≤ R.slots)
    (hQ : ∀ x h', Q x h' → k ls (mmPush (mmRt rt) x r) h') (hrt : rt = 0 ∨ mmRt rt ≠ 0) (hk : mmKS sh tg B b g aC p l e R s m args below meth c H0 D cl nL n0 z0 Qm (pc + 3) k) : W p l e R s m args below meth c H locs ((h 0 0).toNat - n0) ((h 0 1).toNat - z0) Qm (F0 m pc lsA (st.map (mmVal B b g))) := by
  intro T hT X
  obtain ⟨v, st₀, t, T', Lc, h0, X', hL, e1, e2, ⟨⟨x, h', hv, hq, hok, ⟨hn1, hn2⟩, w1, w2, w3, w4⟩, hz, hf⟩, stp⟩ := hrun T hT X
  have hv : v = mmRv B b g rt x := Outcome.returned.inj hv
  subst hv
  rw [h0] at hz hf
  have hW := hA.wh
  have hcnt := hA.2.2.2.2.2
  have hge : h 0 0 ≤ h' 0 0 := by omega
  have q1 := hW.2.2.2.1
  have q2 := hW.2.2.2.2.1
  have hst2 : ∀ q ∈ mmPush (mmRt rt) x r, mmOk (h' 0 0) q := by
    unfold mmPush
    cases Nat.beq (mmRt rt) 0 with
    | true => exact fun q hq => mmOk_mono (hr q hq) hge
    | false => exact mm_cons hok (fun q hq => mmOk_mono (hr q hq) hge)
  have hA2 : mmIn sh tg B b g aC R H0 D cl nL n0 z0 ls (mmPush (mmRt rt) x r) h' T'.heap (locs ++ Lc) lsA := by
    refine ⟨hA.1, hA.2.1, fun q hq => mmOk_mono (hA.2.2.1 q hq) hge, hst2, ⟨by rw [e1]; exact w1, by rw [e1]; exact w2, ?_, w4⟩, by omega, by omega, by omega, by omega⟩
    have hS := hW.2.2.1
    refine ⟨Nat.le_trans hS.1 (by rw [e1]; exact hz), fun q h1 h2 => ?_, fun q hq => ?_⟩
    · rw [e1, hf q (Nat.lt_of_lt_of_le h1 hS.1) h2]
      exact hS.2.1 q h1 h2
    · rcases List.mem_append.mp hq with h1 | h1
      · exact hS.2.2 q h1
      · exact hL q h1
  have key := hk ls _ h' T'.heap (locs ++ Lc) lsA (hQ x h' hq) hA2
  have en : (h' 0 0).toNat - n0 = (h 0 0).toNat - n0 + mc := by omega
  have ez : (h' 0 1).toNat - z0 = (h 0 1).toNat - z0 + ms := by omega
  rw [en, ez] at key
  obtain ⟨t2, a1, b1⟩ := key T' rfl X'
  refine ⟨t2, stp t2 ?_, b1⟩
  have es : (mmPush (mmRt rt) x r).map (mmVal B b g) = (mmRv B b g rt x).toList ++ r.map (mmVal B b g) := by
    unfold mmPush mmRv
    by_cases e0 : rt = 0
    · subst e0; rfl
    · rw [if_neg e0]
      have : Nat.beq (mmRt rt) 0 = false := by
        cases e : Nat.beq (mmRt rt) 0 with
        | false => rfl
        | true => exact absurd (mm_beq e) (hrt.resolve_left e0)
      rw [this]
      rfl
  rw [es] at a1
  exact a1
/-- the three kinds of call: 'static' 1, a constructor 2, a method of an object 0 -/
theorem ks_call (hx : p.tables.exec = Jvm.exec) (hb : c.code = cc) (hml : c.maxLocals = nL) {own : String} {Ts : List Cond} (hown : s.vm.findClass own = some m.cls) (hts : ∀ w ∈ Ts, w.before args s = true) (hKA : mmKA D cl tys s) (hs0 : (sh 0).1 = 99)
    {mp : Nat → mmM} {K : Nat → List Int → mmH → (Int → mmH → Prop) → Prop} {mc ms : Int} {mi maxL index : Nat} {y : MethodName} {bytes : ByteArray} {ret : Option FieldType} {ws : List Cond} {rm : Room}
    (hmc : mc = (R.cells : Int)) (hms : ms = (R.slots : Int))
    (hmet : ∀ as h Q, K mi as h Q → mmMet sh tg B b g aC D cl tys l y ws rm (mp mi).1.reverse (mp mi).2.1 (mp mi).2.2.2.1 (mp mi).2.2.2.2.1 as h Q)
    (hrt : (mp mi).2.1 = 0 ∨ mmRt (mp mi).2.1 ≠ 0)
    (hd : (∃ C T N n, (mp mi).2.2.1 < 99 ∧ cl[(mp mi).2.2.1]? = some (C, T, N) ∧ (∀ x, (sh x).1 = (mp mi).2.2.1 → (sh x).2 = N) ∧ (∃ ts, (mp mi).1.reverse = 3 :: ts ∧ ts.length = n) ∧
          ((decode cc pc = .ok (.invokevirtual index, 3) ∧ CallW R s args own C index y bytes maxL ret ws rm (mp mi).2.2.2.1 (mp mi).2.2.2.2.1 n) ∨
           (decode cc pc = .ok (.invokespecial index, 3) ∧ ret = none ∧ CallB R s args own index y bytes maxL ret ws rm (mp mi).2.2.2.1 (mp mi).2.2.2.2.1 n ∧ y.name = "<init>" ∧ (Cond.instanceMethod y).before args s = true))) ∨
        ((mp mi).2.2.1 = 99 ∧ decode cc pc = .ok (.invokestatic index, 3) ∧ CallB R s args own index y bytes maxL ret ws rm (mp mi).2.2.2.1 (mp mi).2.2.2.2.1 (mp mi).1.length ∧ (Cond.static y).before args s = true))
    (hk : mmKS sh tg B b g aC p l e R s m args below meth c H0 D cl nL n0 z0 Qm (pc + 3) k) : mmKS sh tg B b g aC p l e R s m args below meth c H0 D cl nL n0 z0 Qm pc (oCall sh mp K n0 z0 mc ms mi k) := by
  have hKx := hKA.1
  intro ls st h H locs lsA hp hA
  unfold oCall at hp
  cases hpop : mmPop (mp mi).1 st [] with
  | none => rw [hpop] at hp; exact hp.elim
  | some q =>
    obtain ⟨as, r⟩ := q
    rw [hpop] at hp
    obtain ⟨hcat, hp⟩ := mmG_iff.mp hp
    obtain ⟨hrecv, hp⟩ := mmG_iff.mp hp
    obtain ⟨hbud, hK2⟩ := mmG_iff.mp hp
    obtain ⟨a1, a2, a3, a4⟩ := mm_args (B := B) (b := b) (g := g) hpop hA.okS
    have hcap : (h 0 0).toNat - n0 + (mp mi).2.2.2.1 ≤ R.cells ∧ (h 0 1).toNat - z0 + (mp mi).2.2.2.2.1 ≤ R.slots := by
      have hcnt := hA.2.2.2.2.2
      cases e : (Nat.beq (mp mi).2.2.2.1 0 && Nat.beq (mp mi).2.2.2.2.1 0) with
      | true =>
        simp only [Bool.and_eq_true] at e
        have e1 := mm_beq e.1
        have e2 := mm_beq e.2
        omega
      | false =>
        rw [e, Bool.false_or] at hbud
        have hbud := of_decide_eq_true hbud
        omega
    have hM := hmet as h _ hK2 a1 a2
    have hsize : lsA.size = nL := hA.1.1
    have hW := hA.wh
    have hcat' : 2 * (F0 m pc lsA (st.map (mmVal B b g))).monitorRoom + ((r.map (mmVal B b g)).map fun v => v.category).sum ≤ 8 := by
      show 2 * 0 + _ ≤ 8
      rw [mm_cat]
      have := mm_ble hcat
      simp only [] at this
      omega
    have hwd : ∀ U : State, U.heap = H → s.WarmedH U.vm → va_Pc (mmAv B b g (mp mi).1.reverse as) (mmWd sh tg B b g aC D cl tys h) (mmAv B b g (mp mi).1.reverse as).toArray U :=
      fun U hU hWm => ⟨rfl, by rw [hU]; exact hW.1, by rw [hU]; exact hW.2.1, mmKA.moved hWm.alike hKA, hW.2.2.2⟩
    rcases hd with ⟨C, T, N, n, hci, hc, hshN, ⟨ts, hts3, htn⟩, hd⟩ | ⟨h99, hd, cw, hst⟩
    · have hne : ¬ (mp mi).2.2.1 = 99 := by omega
      have hb99 : Nat.beq (mp mi).2.2.1 99 = false := by
        cases e : Nat.beq (mp mi).2.2.1 99 with
        | false => rfl
        | true => exact absurd (mm_beq e) hne
      rw [hb99, Bool.false_or] at hrecv
      cases as with
      | nil => rw [hts3] at a1; simp at a1
      | cons x0 as' =>
        simp only [List.headD_cons] at hrecv
        have hrecv := mm_beq hrecv
        have hok0 : mmOk (h 0 0) (3, x0) := a2 _ (by rw [hts3, List.zip_cons_cons]; exact List.mem_cons_self)
        obtain ⟨g1, g2, g3⟩ := mm_pos (B := B) (b := b) (g := g) hs0 hok0 hrecv hne
        have he := mmWs_get sh tg B b g aC g1 g2
        rw [mmE_o hrecv hci (hshN x0 hrecv)] at he
        have hav : mmAv B b g (mp mi).1.reverse (x0 :: as') = .ref (B + x0.toNat) :: mmAv B b g ts as' := by
          rw [hts3]
          show (mmVal B b g (3, x0)) :: _ = _
          rw [g3]
          rfl
        have hlen : (mmAv B b g ts as').length = n := by
          rw [hts3] at a1
          have : as'.length = ts.length := by simpa using a1
          unfold mmAv
          rw [List.length_map, List.length_zip, this, Nat.min_self, htn]
        rw [hav] at hM hwd a4
        rw [List.reverse_cons, List.append_assoc] at a4
        have hstk : st.map (mmVal B b g) = (mmAv B b g ts as').reverse ++ .ref (B + x0.toNat) :: r.map (mmVal B b g) := a4
        rcases hd with ⟨hd, cw⟩ | ⟨hd, rfl, cw⟩
        · refine mm_after (rt := (mp mi).2.1) hKx (va_runV (As := mmAv B b g ts as') (rest := r.map (mmVal B b g)) (b := B + x0.toNat) ⟨hx, hb, hml, hown, hts⟩ hM cw ⟨mm_blind, va_recv hKx hW.1 hc he, hwd⟩ rfl hlen hsize hstk hcat' hd hcap) hA a3 hcap (fun x h' q => q) hrt hk
        · refine mm_after (rt := (mp mi).2.1) hKx (va_runI (As := mmAv B b g ts as') (rest := r.map (mmVal B b g)) (b := B + x0.toNat) ⟨hx, hb, hml, hown, hts⟩ hM cw ⟨mm_blind, hwd⟩ rfl hlen hsize hstk hcat' hd hcap) hA a3 hcap (fun x h' q => q) hrt hk
    · have hlen : (mmAv B b g (mp mi).1.reverse as).length = (mp mi).1.length := by
        unfold mmAv
        rw [List.length_map, List.length_zip, a1, Nat.min_self, List.length_reverse]
      refine mm_after (rt := (mp mi).2.1) hKx (va_runS (As := mmAv B b g (mp mi).1.reverse as) (rest := r.map (mmVal B b g)) ⟨hx, hb, hml, hown, hts⟩ hM ⟨cw, hst⟩ ⟨mm_blind, hwd⟩ rfl hlen hsize a4 hcat' hd hcap) hA a3 hcap (fun x h' q => q) hrt hk
theorem ks_obj (hx : p.tables.exec = Jvm.exec) (hb : c.code = cc) (hml : c.maxLocals = nL) {own : String} {idx : Nat} (hown : s.vm.findClass own = some m.cls) (hlink : (Cond.methodLink own idx Lib.objectInit).before args s = true) (hinst : (Cond.instanceMethod Lib.objectInit).before args s = true) (hcode : (Cond.code Lib.objectInit ⟨#[0xb1]⟩ 1 none).before args s = true)
    (hR : 1 ≤ R.frames ∧ 20 ≤ R.locals) (hd : decode cc pc = .ok (.invokespecial idx, 3)) (hk : mmKS sh tg B b g aC p l e R s m args below meth c H0 D cl nL n0 z0 Qm (pc + 3) k) : mmKS sh tg B b g aC p l e R s m args below meth c H0 D cl nL n0 z0 Qm pc (oObj k) := by
  intro ls st h H locs lsA hp hA
  match st, hp, hA with
  | ⟨t, x⟩ :: r, hp, hA =>
    obtain ⟨ht, hp⟩ := mmG_iff.mp hp
    obtain ⟨h1, hp2⟩ := mmD_iff.mp hp
    simp only [Bool.and_eq_true] at ht
    have e1 : t = 3 := mm_beq ht.1
    subst e1
    have hs := hA.okS
    have h1' : ¬ x = 0 := h1
    have hv : mmVal B b g (3, x) = .ref (B + x.toNat) := by simp only [mmVal, h1', if_false]
    rw [List.map_cons, hv]
    have hcat := mm_ble ht.2
    refine W.objInit hx hb hown hlink hinst hcode rfl (by rw [hml]; exact hA.1.1) rfl hd hR.1 ?_ (hk ls _ h H locs lsA hp2 (hA.stk (mm_tail hs)))
    show 2 * 0 + _ + 12 ≤ _
    rw [mm_cat]
    omega
end MR5
end
section
/-! ===== mm: a return ===== -/
def mmGrow (mc ms : Nat) (h0 h : mmH) : Prop := (mc = 0 ∧ ms = 0) ∨ (h 0 0 = h0 0 0 + mc ∧ h 0 1 = h0 0 1 + ms)
section MR6
variable {sh : Int → Nat × Nat} {tg : Nat → Nat → Nat} {B b g : Nat} {aC : Nat → ClassId} {p : Program} {l : Launch} {e : Env} {R : Room} {s : State} {m : MethodId} {args : Array Value} {below : List Frame} {meth : Method} {c : Code} {H0 : Heap} {D : va_G} {cl : List vw_C} {nL n0 z0 : Nat} {Qm : State → Prop}
variable {pc : Nat} {cc : ByteArray} {tys : List (ClassId × FieldType)}
theorem ks_ret {Q : Int → mmH → Prop} {rt mcN msN : Nat} {h0 : mmH} {ret : Option FieldType} (hx : p.tables.exec = Jvm.exec) (hb : c.code = cc) (hlocks : meth.locks = false) (hH0 : H0 = s.heap) (hn0 : n0 = (h0 0 0).toNat) (hz0 : z0 = (h0 0 1).toNat) (hp0 : 0 ≤ h0 0 0 ∧ 0 ≤ h0 0 1)
    (hcap : R.cells = mcN ∧ R.slots = msN) (hKx : mmKA D cl tys s) (hret : meth.sig.returnType = ret) (hQm : Qm = MQ below (mmQc sh tg B b g aC D cl tys rt mcN msN h0 Q) args s mcN msN (mmA B))
    (hd : (rt = 0 ∧ decode cc pc = .ok (.return_, 1) ∧ ret = none) ∨ (rt = 1 ∧ decode cc pc = .ok (.ireturn, 1) ∧ ret = some .int) ∨ (rt = 2 ∧ decode cc pc = .ok (.lreturn, 1) ∧ ret = some .long) ∨ (rt = 3 ∧ decode cc pc = .ok (.areturn, 1) ∧ ∃ ty, ret = some ty ∧ ((∃ n, ty = .object n) ∨ ∃ t, ty = .array t)) ∨ (rt = 4 ∧ decode cc pc = .ok (.ireturn, 1) ∧ ret = some .boolean)) :
    mmKS sh tg B b g aC p l e R s m args below meth c H0 D cl nL n0 z0 Qm pc (oRet (fun x h => mmGrow mcN msN h0 h ∧ Q x h) rt) := by
  intro ls st h H locs lsA hp hA
  have hW := hA.wh
  have hcnt := hA.2.2.2.2.2
  have hs := hA.okS
  have key : ∀ (x : Int), (mmGrow mcN msN h0 h ∧ Q x h) → mmOk (h 0 0) (mmRt rt, x) → (((h 0 0).toNat - n0 = mcN ∧ (h 0 1).toNat - z0 = msN) ∧ ∀ t : State, t.heap = H → s.WarmedH t.vm → mmQc sh tg B b g aC D cl tys rt mcN msN h0 Q args s (.returned (mmRv B b g rt x)) t) := by
    intro x hq hok
    obtain ⟨hg, hq⟩ := hq
    have hW3 := hW.2.2.2
    have e : h 0 0 = h0 0 0 + mcN ∧ h 0 1 = h0 0 1 + msN := by
      rcases hg with hg | hg
      · have := hW3.1
        have := hW3.2.1
        omega
      · exact hg
    refine ⟨by omega, fun t ht hw => ⟨⟨x, h, rfl, hq, hok, e, by rw [ht]; exact hW.1, by rw [ht]; exact hW.2.1, mmKA.moved hw.alike hKx, hW3⟩, ?_⟩⟩
    have := hW.2.2.1
    rw [hH0] at this
    exact this.F ht
  have hf : ∀ q ∈ locs, mmA B q.base := hW.2.2.1.2.2
  rw [hQm]
  rcases hd with ⟨rfl, hd, rfl⟩ | ⟨rfl, hd, rfl⟩ | ⟨rfl, hd, rfl⟩ | ⟨rfl, hd, ty, rfl, hty⟩ | ⟨rfl, hd, rfl⟩
  · match st, hp, hA, hs with
    | [], hp, hA, hs =>
      obtain ⟨⟨k1, k2⟩, k3⟩ := key 0 hp trivial
      rw [k1, k2]
      exact W.vret hx hb hret k3 hf hd hlocks
  · match st, hp, hA, hs with
    | [⟨t, x⟩], hp, hA, hs =>
      obtain ⟨ht, hp2⟩ := mmG_iff.mp hp
      have e1 : t = 1 := mm_beq ht
      subst e1
      obtain ⟨⟨k1, k2⟩, k3⟩ := key x hp2 (mm_head hs)
      rw [k1, k2]
      exact W.iret hx hb hret k3 hf hd hlocks
  · match st, hp, hA, hs with
    | [⟨t, x⟩], hp, hA, hs =>
      obtain ⟨ht, hp2⟩ := mmG_iff.mp hp
      have e1 : t = 2 := mm_beq ht
      subst e1
      obtain ⟨⟨k1, k2⟩, k3⟩ := key x hp2 (mm_head hs)
      rw [k1, k2]
      exact W.lret hx hb hret k3 hf hd hlocks
  · match st, hp, hA, hs with
    | [⟨t, x⟩], hp, hA, hs =>
      obtain ⟨ht, hp2⟩ := mmG_iff.mp hp
      have e1 : t = 3 := mm_beq ht
      subst e1
      obtain ⟨⟨k1, k2⟩, k3⟩ := key x hp2 (mm_head hs)
      rw [k1, k2]
      refine W.aret (v := mmVal B b g (3, x)) hx hb hret hty ?_ k3 hf hd hlocks
      by_cases e0 : x = 0
      · exact Or.inl (by simp only [mmVal, e0, if_true])
      · exact Or.inr ⟨B + x.toNat, by simp only [mmVal, e0, if_false]⟩
  · match st, hp, hA, hs with
    | [⟨t, x⟩], hp, hA, hs =>
      obtain ⟨ht, hp⟩ := mmG_iff.mp hp
      obtain ⟨h01, hp2⟩ := mmD_iff.mp hp
      have e1 : t = 1 := mm_beq ht
      subst e1
      obtain ⟨⟨k1, k2⟩, k3⟩ := key x hp2 (mm_head hs)
      rw [k1, k2]
      refine W.zret (ty := .boolean) hx hb hret ?_ k3 hf hd hlocks
      rcases h01 with h01 | h01
      · have e1 : x = 0 := h01
        subst e1
        decide
      · have e1 : x = 1 := h01
        subst e1
        decide
/-- the script -/
theorem ks_sld {L : Int} {xs : Int → Int} {k : mmKont} {Ln : Nat} {xs' : Nat → Int32} (hx : p.tables.exec = Jvm.exec) (hb : c.code = cc) (hX : va_X b Ln xs' s H0) (hbl : b < H0.size) (hbB : b ≤ B) (hL : L = (Ln : Int)) (hL2 : Ln < 2147483648) (hxs : ∀ j : Nat, j < Ln → xs j = (xs' j).toInt) (hd : decode cc pc = .ok (.iaload, 1))
    (hk : mmKS sh tg B b g aC p l e R s m args below meth c H0 D cl nL n0 z0 Qm (pc + 1) k) : mmKS sh tg B b g aC p l e R s m args below meth c H0 D cl nL n0 z0 Qm pc (oSld L xs k) := by
  intro ls st h H locs lsA hp hA
  match st, hp, hA with
  | ⟨ti, i⟩ :: ⟨t, x⟩ :: r, hp, hA =>
    obtain ⟨ht, ⟨h2, h3⟩, hp2⟩ := mmG_iff.mp hp
    simp only [Bool.and_eq_true] at ht
    have e1 : t = 4 := mm_beq ht.2
    have e2 : ti = 1 := mm_beq ht.1
    subst e1; subst e2
    simp only [] at h2 h3
    have hs := hA.okS
    have ei : (Int32.ofInt i).toNatClampNeg = i.toNat := mm_cl h2 (by omega)
    have ez : ((i.toNat : Nat) : Int) = i := by omega
    have ev : xs i = (xs' i.toNat).toInt := by rw [← hxs i.toNat (by omega), ez]
    have h4 := hk ls _ h H locs lsA hp2 (hA.stk (mm_cons (show mmOk (h 0 0) (1, xs i) by rw [ev]; exact mm_r32 _) (mm_tail (mm_tail hs))))
    refine va_sld hx hb hX hbl (fun q => by unfold mmA at q; omega) hA.wh.2.2.1 (i := Int32.ofInt i) (mm_in h2 (by omega) (by omega)) hd ?_
    rw [ei]
    rw [List.map_cons] at h4
    have e5 : mmVal B b g (1, xs (1, i).2) = .int (xs' i.toNat) := by
      show Value.int (Int32.ofInt (xs i)) = _
      rw [ev, mm_o32]
    rw [e5] at h4
    exact h4
theorem ks_slen {L : Int} {k : mmKont} {Ln : Nat} {xs' : Nat → Int32} (hx : p.tables.exec = Jvm.exec) (hb : c.code = cc) (hX : va_X b Ln xs' s H0) (hbl : b < H0.size) (hbB : b ≤ B) (hL : L = (Ln : Int)) (hL2 : Ln < 2147483648) (hd : decode cc pc = .ok (.arraylength, 1))
    (hk : mmKS sh tg B b g aC p l e R s m args below meth c H0 D cl nL n0 z0 Qm (pc + 1) k) : mmKS sh tg B b g aC p l e R s m args below meth c H0 D cl nL n0 z0 Qm pc (oSlen L k) := by
  intro ls st h H locs lsA hp hA
  match st, hp, hA with
  | ⟨t, x⟩ :: r, hp, hA =>
    obtain ⟨ht, hp2⟩ := mmG_iff.mp hp
    have e1 : t = 4 := mm_beq ht
    subst e1
    have hs := hA.okS
    have h4 := hk ls _ h H locs lsA hp2 (hA.stk (mm_cons (show mmOk (h 0 0) (1, L) from ⟨by show _ ≤ L; omega, by show L < _; omega⟩) (mm_tail hs)))
    refine va_slen hx hb hX hbl (fun q => by unfold mmA at q; omega) hA.wh.2.2.1 hd ?_
    rw [List.map_cons] at h4
    have e5 : mmVal B b g (1, L) = .int (Int32.ofNat Ln) := by
      show Value.int (Int32.ofInt L) = _
      rw [hL]
      exact congrArg Value.int Int32.ofInt_eq_ofNat
    rw [e5] at h4
    exact h4
end MR6
end
section
/-! ===== mm: what is made ===== -/
section MR7
variable {sh : Int → Nat × Nat} {tg : Nat → Nat → Nat} {B b g : Nat} {aC : Nat → ClassId} {p : Program} {l : Launch} {e : Env} {R : Room} {s : State} {m : MethodId} {args : Array Value} {below : List Frame} {meth : Method} {c : Code} {H0 : Heap} {D : va_G} {cl : List vw_C} {nL n0 z0 : Nat} {Qm : State → Prop}
variable {pc : Nat} {k : mmKont} {cc : ByteArray} {tys : List (ClassId × FieldType)}
theorem mmWs_push {h h' : mmH} (h1 : 1 ≤ h 0 0) (hn : h' 0 0 = h 0 0 + 1) (ho : ∀ j : Int, 1 ≤ j → j < h 0 0 → h' j = h j) : mmWs sh tg B b g aC h' = mmWs sh tg B b g aC h ++ [(B + (h 0 0).toNat, mmE sh tg B b g aC (h 0 0) (h' (h 0 0)))] := by
  unfold mmWs
  have e : (h' 0 0).toNat - 1 = ((h 0 0).toNat - 1) + 1 := by omega
  rw [e, List.range_succ, List.map_append, List.map_singleton]
  have e1 : (((h 0 0).toNat - 1 : Nat) : Int) + 1 = h 0 0 := by omega
  have e2 : (h 0 0).toNat - 1 + 1 = (h 0 0).toNat := by omega
  rw [e1, e2]
  congr 1
  apply List.map_congr_left
  intro q hq
  have hq2 := List.mem_range.mp hq
  rw [ho ((q : Int) + 1) (by omega) (by omega)]
/-- one more cell -/
theorem mmWH.push {h h' : mmH} {H H' : Heap} {locs : List Loc} (hW : mmWH sh tg B b g aC D cl H0 h H locs) (hn : h' 0 0 = h 0 0 + 1) (hz : 0 ≤ h' 0 1) (ho : ∀ j : Int, 1 ≤ j → j < h 0 0 → h' j = h j) (hb : ∀ i : Int, h' (h 0 0) i = 0) (hl : (sh (h 0 0)).2 < 2147483648)
    (z : H'.size = H.size + 1) (oq : ∀ q : Nat, q < H.size → H'[q]? = H[q]?) (hat : va_at D cl (B + (h 0 0).toNat, mmE sh tg B b g aC (h 0 0) (h' (h 0 0))) H') : mmWH sh tg B b g aC D cl H0 h' H' locs := by
  obtain ⟨w1, w2, w3, w4, w5, w6⟩ := hW
  refine ⟨?_, by rw [z, w2, hn]; omega, ⟨Nat.le_trans w3.1 (by omega), fun q q1 q2 => (oq q (Nat.lt_of_lt_of_le q1 w3.1)).trans (w3.2.1 q q1 q2), w3.2.2⟩, by omega, hz, fun a ha hlt => ?_⟩
  · rw [mmWs_push w4 hn ho]
    refine va_P.app (w1.kept fun i q hq => oq q.1 (w1 i q hq).lt) (fun i q hq => ?_)
    have hi : i < 1 := (List.getElem?_eq_some_iff.mp hq).1
    rw [show i = 0 by omega] at hq
    cases hq
    exact hat
  · rw [hn] at hlt ⊢
    by_cases e : a = h 0 0
    · subst e
      refine ⟨hl, fun i hi => ?_⟩
      rw [hb]
      unfold mmOk
      split <;> first | omega | trivial
    · rw [ho a ha (by omega)]
      obtain ⟨p1, p2⟩ := w6 a ha (by omega)
      exact ⟨p1, fun i hi => mmOk_mono (p2 i hi) (by omega)⟩
theorem mm_val0 {t : Nat} : mmVal B b g (t, 0) = (match t with | 1 => .int 0 | 2 => .long 0 | 3 => .null | 4 => .ref b | 5 => .ref g | _ => .null) := by
  match t with
  | 0 => rfl
  | 1 => rfl
  | 2 => rfl
  | 3 => rfl
  | 4 => rfl
  | 5 => rfl
  | n + 6 => rfl
theorem mm_dflt {ty : FieldType} (h0 : mmTy ty ≠ 0) : defaultValue ty = mmVal B b g (mmTy ty, 0) := by
  cases ty with
  | int => rfl
  | long => rfl
  | object C => rfl
  | array t => rfl
  | _ => exact absurd rfl h0
theorem mmIn.push {ls st : List mmV} {h h' : mmH} {H H' : Heap} {locs : List Loc} {lsA : Array Slot} (hA : mmIn sh tg B b g aC R H0 D cl nL n0 z0 ls st h H locs lsA) {r : List mmV} (hr : ∀ v ∈ r, mmOk (h 0 0) v) (hn : h' 0 0 = h 0 0 + 1) (hz : h 0 1 ≤ h' 0 1) (hcap : (h' 0 0).toNat - n0 ≤ R.cells ∧ (h' 0 1).toNat - z0 ≤ R.slots) (hW : mmWH sh tg B b g aC D cl H0 h' H' locs) : mmIn sh tg B b g aC R H0 D cl nL n0 z0 ls ((3, h 0 0) :: r) h' H' locs lsA := by
  have h1 := hA.wh.2.2.2.1
  have hcnt := hA.2.2.2.2.2
  refine ⟨hA.1, hA.2.1, fun v hv => mmOk_mono (hA.2.2.1 v hv) (by omega), mm_cons ⟨by show 0 ≤ h 0 0; omega, by show h 0 0 < h' 0 0; omega⟩ (fun v hv => mmOk_mono (hr v hv) (by omega)), hW, by omega, by omega, hcap.1, hcap.2⟩
theorem ks_new (hx : p.tables.exec = Jvm.exec) (hb : c.code = cc) {own C : String} {T : u_T} {ci N index : Nat} {Ts : List Cond} {mc ms : Int} (hmc : mc = (R.cells : Int)) (hms : ms = (R.slots : Int)) (hts : ∀ w ∈ Ts, w.before args s = true) (hin : ∀ w ∈ u_ws C T N, w ∈ Ts) (ty : Nat → FieldType) (hty : ∀ k, k < N → parseFieldDescriptor (T k).2.2.1 = some (ty k)) (hown : s.vm.findClass own = some m.cls) (hK : va_K D cl tys s)
    (hc : cl[ci]? = some (C, T, N)) (hci : ci < 99) (hsh : ∀ x, (sh x).1 = ci → (sh x).2 = N) (htg : ∀ f, f < N → tg ci f = mmTy (ty f) ∧ tg ci f ≠ 0) (hcl : (Cond.classLink own index C).before args s = true) (hinst : (Cond.instantiable C N).before args s = true) (hini : (Cond.initialized C).before args s = true) (hd : decode cc pc = .ok (.new index, 3))
    (hk : mmKS sh tg B b g aC p l e R s m args below meth c H0 D cl nL n0 z0 Qm (pc + 3) k) : mmKS sh tg B b g aC p l e R s m args below meth c H0 D cl nL n0 z0 Qm pc (oNew sh n0 z0 mc ms ci k) := by
  intro ls st h H locs lsA hp hA
  obtain ⟨⟨h1, h2⟩, ⟨h3, h4⟩, hp⟩ := hp
  have hW := hA.wh
  have hW1 := hW.2.2.2.1
  have hW2 := hW.2.2.2.2.1
  have hcnt := hA.2.2.2.2.2
  have hN := hsh _ h1
  rw [hN] at h4
  have e0 : mmS (mmS (mmZ h) 0 0 (h 0 0 + 1)) 0 1 (h 0 1 + ((sh (h 0 0)).2 : Int)) 0 0 = h 0 0 + 1 := by rw [mmS_slot, if_neg (by omega), mmS_self]
  have e1 : mmS (mmS (mmZ h) 0 0 (h 0 0 + 1)) 0 1 (h 0 1 + ((sh (h 0 0)).2 : Int)) 0 1 = h 0 1 + (N : Int) := by rw [mmS_self, hN]
  have eo : ∀ j : Int, 1 ≤ j → mmS (mmS (mmZ h) 0 0 (h 0 0 + 1)) 0 1 (h 0 1 + ((sh (h 0 0)).2 : Int)) j = mmZ h j := fun j hj => by
    funext i
    rw [mmS_cell (by omega), mmS_cell (by omega)]
  have ez : ∀ i : Int, mmZ h (h 0 0) i = 0 := fun i => by simp [mmZ]
  generalize hh' : mmS (mmS (mmZ h) 0 0 (h 0 0 + 1)) 0 1 (h 0 1 + ((sh (h 0 0)).2 : Int)) = h' at hp e0 e1 eo
  have hKn := hK.1 ci _ hc
  refine W.newcK hx hb hown hcl hinst hini rfl hd (by omega) (by omega) hKn.2.1 hW.2.1 fun H' kC hkC f1 f2 f3 => ?_
  have hat : va_at D cl (B + (h 0 0).toNat, mmE sh tg B b g aC (h 0 0) (h' (h 0 0))) H' := by
    rw [mmE_o h1 hci hN]
    refine ⟨_, hc, (u_born ty hts hin hKn hkC f1 hty).to fun j hj => ?_⟩
    show _ = vp_V _ _
    unfold vp_V
    rw [List.getD_eq_getElem?_getD, List.getElem?_map, List.getElem?_range hj]
    obtain ⟨t1, t2⟩ := htg j hj
    rw [mm_dflt (B := B) (b := b) (g := g) (by rw [← t1]; exact t2), eo _ hW1]
    simp [ez, t1]
  have hWn := hW.push (h' := h') (H' := H') e0 (by omega) (fun j j1 j2 => by rw [eo j j1]; funext i; simp [mmZ]; omega) (fun i => by rw [eo _ hW1, ez]) (by omega) (by rw [f2, hW.2.1]) (fun q hq => f3 q (by rw [← hW.2.1]; exact hq)) hat
  have := hk ls _ h' H' locs lsA hp (hA.push (r := st) hA.okS e0 (by omega) (by omega) hWn)
  have en : (h' 0 0).toNat - n0 = (h 0 0).toNat - n0 + 1 := by omega
  have ezz : (h' 0 1).toNat - z0 = (h 0 1).toNat - z0 + N := by omega
  rw [en, ezz] at this
  have ev : mmVal B b g (3, h 0 0) = .ref (B + (h 0 0).toNat) := by
    have : ¬ h 0 0 = 0 := by omega
    simp only [mmVal, this, if_false]
  rw [List.map_cons, ev] at this
  exact this
theorem mm_cb {kd : Nat} (h : kd < 4) : componentBytes (mmKt kd) ≤ 8 := by
  match kd, h with
  | 0, _ => decide
  | 1, _ => decide
  | 2, _ => decide
  | 3, _ => decide
theorem mm_nm {kd : Nat} {cA : ClassId} (h : kd < 4) (hr : va_RA s cA (mmKt kd)) : s.vm.findClass ("[" ++ (mmKt kd).toString) = some cA := by
  match kd, h, hr with
  | 0, _, hr => exact hr
  | 1, _, hr => exact hr
  | 2, _, hr => exact hr
  | 3, _, hr => exact hr
theorem mm_d0 {kd : Nat} (h : kd < 4) : defaultValue (mmKt kd) = mmVal B b g (mmEt kd, 0) := by
  match kd, h with
  | 0, _ => rfl
  | 1, _ => rfl
  | 2, _ => rfl
  | 3, _ => rfl
theorem ks_newA (hx : p.tables.exec = Jvm.exec) (hb : c.code = cc) {kd : Nat} {at_ : ArrayType} {mc ms : Int} (hmc : mc = (R.cells : Int)) (hms : ms = (R.slots : Int)) (hK : va_K D cl tys s) (hty : tys[kd]? = some (aC kd, mmKt kd)) (hk4 : kd < 4) (hat_ : newarray.typeOf at_ = mmKt kd) (harr : (Cond.arrayClass (newarray.typeOf at_)).before args s = true) (hd : decode cc pc = .ok (.newarray at_, 2))
    (hk : mmKS sh tg B b g aC p l e R s m args below meth c H0 D cl nL n0 z0 Qm (pc + 2) k) : mmKS sh tg B b g aC p l e R s m args below meth c H0 D cl nL n0 z0 Qm pc (oNewA sh n0 z0 mc ms kd k) := by
  intro ls st h H locs lsA hp hA
  match st, hp, hA with
  | ⟨t, x⟩ :: r, hp, hA =>
    obtain ⟨ht, ⟨h1, h2, h2'⟩, ⟨h3, h4⟩, hp2⟩ := mmG_iff.mp hp
    have et : t = 1 := mm_beq ht
    subst et
    simp only [] at h2 h2' h3 h4 hp2
    have hW := hA.wh
    have hW1 := hW.2.2.2.1
    have hW2 := hW.2.2.2.2.1
    have hcnt := hA.2.2.2.2.2
    have e0 : mmS (mmS (mmZ h) 0 0 (h 0 0 + 1)) 0 1 (h 0 1 + x) 0 0 = h 0 0 + 1 := by rw [mmS_slot, if_neg (by omega), mmS_self]
    have e1 : mmS (mmS (mmZ h) 0 0 (h 0 0 + 1)) 0 1 (h 0 1 + x) 0 1 = h 0 1 + x := by rw [mmS_self]
    have eo : ∀ j : Int, 1 ≤ j → mmS (mmS (mmZ h) 0 0 (h 0 0 + 1)) 0 1 (h 0 1 + x) j = mmZ h j := fun j hj => by
      funext i
      rw [mmS_cell (by omega), mmS_cell (by omega)]
    have ez : ∀ i : Int, mmZ h (h 0 0) i = 0 := fun i => by simp [mmZ]
    generalize hh' : mmS (mmS (mmZ h) 0 0 (h 0 0 + 1)) 0 1 (h 0 1 + x) = h' at hp2 e0 e1 eo
    have hx0 : 0 ≤ x := by omega
    have hcl : (Int32.ofInt x).toNatClampNeg = x.toNat := mm_cl hx0 (by omega)
    have hng : ¬ Int32.ofInt x < 0 := fun q => by
      rw [Int32.lt_iff_toInt_lt, mm_t32 (by omega) (by omega)] at q
      have : (0 : Int32).toInt = 0 := rfl
      omega
    have hcb : componentBytes (newarray.typeOf at_) ≤ 8 := by rw [hat_]; exact mm_cb hk4
    have hbytes : x.toNat * componentBytes (newarray.typeOf at_) ≤ 536870912 := Nat.le_trans (Nat.mul_le_mul (show x.toNat ≤ 65536 by omega) hcb) (by omega)
    rw [List.map_cons]
    refine va_newaK hx hb harr rfl hd rfl hng hcl hbytes (by omega) (by omega) hW.2.1 fun H' cA f1 f2 f3 f4 f5 => ?_
    have hnm := (hK.2 kd _ hty).2
    have hcA : cA = aC kd := by
      rw [hat_] at f5
      exact Option.some.inj (f5.symm.trans (mm_nm hk4 hnm))
    have hat : va_at D cl (B + (h 0 0).toNat, mmE sh tg B b g aC (h 0 0) (h' (h 0 0))) H' := by
      rw [mmE_a h1]
      show H'[B + (h 0 0).toNat]? = some (vp_cell _ _)
      rw [mmAr_cell (b := b) (g := g), f1, hcA, hat_]
      have : (sh (h 0 0)).2 = x.toNat := by omega
      rw [this]
      congr 2
      funext j
      rw [eo _ hW1, ez]
      exact mm_d0 hk4
    have hWn := hW.push (h' := h') (H' := H') e0 (by omega) (fun j j1 j2 => by rw [eo j j1]; funext i; simp [mmZ]; omega) (fun i => by rw [eo _ hW1, ez]) (by omega) (by rw [f2, hW.2.1]) (fun q hq => f3 q (by rw [← hW.2.1]; exact hq)) hat
    have := hk ls _ h' H' locs lsA hp2 (hA.push (r := r) (mm_tail hA.okS) e0 (by omega) (by omega) hWn)
    have en : (h' 0 0).toNat - n0 = (h 0 0).toNat - n0 + 1 := by omega
    have ezz : (h' 0 1).toNat - z0 = (h 0 1).toNat - z0 + x.toNat := by omega
    rw [en, ezz] at this
    have ev : mmVal B b g (3, h 0 0) = .ref (B + (h 0 0).toNat) := by
      have : ¬ h 0 0 = 0 := by omega
      simp only [mmVal, this, if_false]
    rw [List.map_cons, ev] at this
    exact this
theorem ks_newQ (hx : p.tables.exec = Jvm.exec) (hb : c.code = cc) {own : String} {index : Nat} {mc ms : Int} (hmc : mc = (R.cells : Int)) (hms : ms = (R.slots : Int)) (hown : s.vm.findClass own = some m.cls) (hK : va_K D cl tys s) (hty : tys[5]? = some (aC 5, mmKt 5)) (hclink : (Cond.classLink own index "TileHeel$Roofs").before args s = true) (hover : (Cond.arrayOver (.object "TileHeel$Roofs")).before args s = true) (hd : decode cc pc = .ok (.anewarray index, 3))
    (hk : mmKS sh tg B b g aC p l e R s m args below meth c H0 D cl nL n0 z0 Qm (pc + 3) k) : mmKS sh tg B b g aC p l e R s m args below meth c H0 D cl nL n0 z0 Qm pc (oNewA sh n0 z0 mc ms 5 k) := by
  intro ls st h H locs lsA hp hA
  match st, hp, hA with
  | ⟨t, x⟩ :: r, hp, hA =>
    obtain ⟨ht, ⟨h1, h2, h2'⟩, ⟨h3, h4⟩, hp2⟩ := mmG_iff.mp hp
    have et : t = 1 := mm_beq ht
    subst et
    simp only [] at h2 h2' h3 h4 hp2
    have hW := hA.wh
    have hW1 := hW.2.2.2.1
    have hW2 := hW.2.2.2.2.1
    have hcnt := hA.2.2.2.2.2
    have e0 : mmS (mmS (mmZ h) 0 0 (h 0 0 + 1)) 0 1 (h 0 1 + x) 0 0 = h 0 0 + 1 := by rw [mmS_slot, if_neg (by omega), mmS_self]
    have e1 : mmS (mmS (mmZ h) 0 0 (h 0 0 + 1)) 0 1 (h 0 1 + x) 0 1 = h 0 1 + x := by rw [mmS_self]
    have eo : ∀ j : Int, 1 ≤ j → mmS (mmS (mmZ h) 0 0 (h 0 0 + 1)) 0 1 (h 0 1 + x) j = mmZ h j := fun j hj => by
      funext i
      rw [mmS_cell (by omega), mmS_cell (by omega)]
    have ez : ∀ i : Int, mmZ h (h 0 0) i = 0 := fun i => by simp [mmZ]
    generalize hh' : mmS (mmS (mmZ h) 0 0 (h 0 0 + 1)) 0 1 (h 0 1 + x) = h' at hp2 e0 e1 eo
    have hx0 : 0 ≤ x := by omega
    have hcl : (Int32.ofInt x).toNatClampNeg = x.toNat := mm_cl hx0 (by omega)
    have hng : ¬ Int32.ofInt x < 0 := fun q => by
      rw [Int32.lt_iff_toInt_lt, mm_t32 (by omega) (by omega)] at q
      have : (0 : Int32).toInt = 0 := rfl
      omega
    rw [List.map_cons]
    refine W.anew hx hb hown hclink hover rfl hd rfl hng (by rw [hcl]; omega) (by omega) (by rw [hcl]; omega) fun cA kA comp f1 f2 f3 f4 => ?_
    rw [hcl]
    have hcA : cA = aC 5 := by
      obtain ⟨_, _, _, _, _, q⟩ := (hK.2 5 _ hty).2
      exact Option.some.inj (f1.symm.trans q)
    have hat : va_at D cl (B + (h 0 0).toNat, mmE sh tg B b g aC (h 0 0) (h' (h 0 0))) (H.push { cls := cA, slots := Array.replicate x.toNat .null, vm := .none }) := by
      rw [mmE_a h1]
      show (H.push _)[B + (h 0 0).toNat]? = some (vp_cell _ _)
      rw [mmAr_cell (b := b) (g := g), hcA, ← hW.2.1, Array.getElem?_push_size]
      have : (sh (h 0 0)).2 = x.toNat := by omega
      rw [this]
      have e5 : (fun j : Nat => mmVal B b g (mmEt 5, h' (h 0 0) j)) = fun _ => .null := by
        funext j
        rw [eo _ hW1, ez]
        rfl
      rw [e5, ← arrV_new]
    have hWn := hW.push (h' := h') (H' := H.push { cls := cA, slots := Array.replicate x.toNat .null, vm := .none }) e0 (by omega) (fun j j1 j2 => by rw [eo j j1]; funext i; simp [mmZ]; omega) (fun i => by rw [eo _ hW1, ez]) (by omega) (by simp) (fun q hq => by rw [Array.getElem?_push, if_neg (Nat.ne_of_lt hq)]) hat
    have := hk ls _ h' _ locs lsA hp2 (hA.push (r := r) (mm_tail hA.okS) e0 (by omega) (by omega) hWn)
    have en : (h' 0 0).toNat - n0 = (h 0 0).toNat - n0 + 1 := by omega
    have ezz : (h' 0 1).toNat - z0 = (h 0 1).toNat - z0 + x.toNat := by omega
    rw [en, ezz] at this
    have ev : mmVal B b g (3, h 0 0) = .ref H.size := by
      have : ¬ h 0 0 = 0 := by omega
      simp only [mmVal, this, if_false, hW.2.1]
    rw [List.map_cons, ev] at this
    exact this
end MR7
end
section
/-! ===== mm: System.arraycopy ===== -/
section MR8
variable {sh : Int → Nat × Nat} {tg : Nat → Nat → Nat} {B b g : Nat} {aC : Nat → ClassId} {p : Program} {l : Launch} {e : Env} {R : Room} {s : State} {m : MethodId} {args : Array Value} {below : List Frame} {meth : Method} {c : Code} {H0 : Heap} {D : va_G} {cl : List vw_C} {nL n0 z0 : Nat} {Qm : State → Prop}
variable {pc : Nat} {k : mmKont} {cc : ByteArray} {tys : List (ClassId × FieldType)} {wn : Int → Bool}
theorem mm_z32 {z : Int} (h1 : 0 ≤ z) (h2 : z < 2147483648) : ¬ Int32.ofInt z < 0 ∧ (Int32.ofInt z).toInt = z ∧ (Int32.ofInt z).toNatClampNeg = z.toNat := by
  have e := mm_t32 (x := z) (by omega) h2
  refine ⟨fun q => ?_, e, mm_cl h1 h2⟩
  rw [Int32.lt_iff_toInt_lt, e] at q
  have : (0 : Int32).toInt = 0 := rfl
  omega
theorem ks_cpy (hx : p.tables.exec = Jvm.exec) (hb : c.code = cc) (hml : c.maxLocals = nL) {own : String} {index : Nat} (hown : s.vm.findClass own = some m.cls) (hlink : (Cond.methodLink own index arraycopyName).before args s = true) (hnat : (Cond.native arraycopyName).before args s = true) (hstat : (Cond.static arraycopyName).before args s = true) (hini : (Cond.initialized "java/lang/System").before args s = true)
    (hK : va_K D cl tys s) (hs0 : (sh 0).1 = 99) (hty : tys[0]? = some (aC 0, .int)) (hR : 1 ≤ R.frames ∧ 8 + (nativeFrameWords "java/lang/System" "arraycopy" 5 + 11) ≤ R.locals) (hd : decode cc pc = .ok (.invokestatic index, 3))
    (hk : mmKS sh tg B b g aC p l e R s m args below meth c H0 D cl nL n0 z0 Qm (pc + 3) k) : mmKS sh tg B b g aC p l e R s m args below meth c H0 D cl nL n0 z0 Qm pc (oCpy sh wn k) := by
  intro ls st h H locs lsA hp hA
  match st, hp, hA with
  | ⟨t1, n⟩ :: ⟨t2, dp⟩ :: ⟨t3, x⟩ :: ⟨t4, sp⟩ :: ⟨t5, y⟩ :: r, hp, hA =>
    obtain ⟨ht, hp⟩ := mmG_iff.mp hp
    obtain ⟨h12, hp⟩ := mmG_iff.mp hp
    obtain ⟨⟨⟨h3, h4, h5⟩, ⟨h6, h7⟩⟩, hp2⟩ := mmD_iff.mp hp
    simp only [Bool.and_eq_true] at h12
    have h1 : (sh y).1 = 100 := mm_beq h12.1
    have h2 : (sh x).1 = 100 := mm_beq h12.2.1
    simp only [Bool.and_eq_true] at ht
    have e1 : t1 = 1 := mm_beq ht.1
    have e2 : t2 = 1 := mm_beq ht.2.1
    have e3 : t3 = 3 := mm_beq ht.2.2.1
    have e4 : t4 = 1 := mm_beq ht.2.2.2.1
    have e5 : t5 = 3 := mm_beq ht.2.2.2.2.1
    have hcat := mm_ble ht.2.2.2.2.2
    subst e1; subst e2; subst e3; subst e4; subst e5
    simp only [] at h1 h2 h3 h4 h5 h6 h7
    have hs := hA.okS
    have hoky := mm_head (mm_tail (mm_tail (mm_tail (mm_tail hs))))
    have hokx := mm_head (mm_tail (mm_tail hs))
    obtain ⟨g1, g2, g3⟩ := mm_pos (B := B) (b := b) (g := g) hs0 hoky h1 (by omega)
    obtain ⟨f1, f2, f3⟩ := mm_pos (B := B) (b := b) (g := g) hs0 hokx h2 (by omega)
    have hW := hA.wh
    obtain ⟨leny, conty⟩ := hW.2.2.2.2.2 y g1 g2
    obtain ⟨lenx, contx⟩ := hW.2.2.2.2.2 x f1 f2
    have hc0 := mm_arr (kd := 0) hW g1 g2 (by omega)
    have hc1 := mm_arr (kd := 0) hW f1 f2 (by omega)
    obtain ⟨-, k0, hk0, cm0, hkk0⟩ := (hK.2 0 _ hty).1 (sh y).2 (fun j : Nat => mmVal B b g (mmEt 0, h y j))
    obtain ⟨-, k1, hk1, cm1, hkk1⟩ := (hK.2 0 _ hty).1 (sh x).2 (fun j : Nat => mmVal B b g (mmEt 0, h x j))
    obtain ⟨a1, a2, a3⟩ := mm_z32 h3 (by omega)
    obtain ⟨b1, b2, b3⟩ := mm_z32 h4 (by omega)
    obtain ⟨d1, d2, d3⟩ := mm_z32 h5 (by omega)
    rw [List.map_cons, List.map_cons, List.map_cons, List.map_cons, List.map_cons, g3, f3]
    intro T hT X
    obtain ⟨vm', X', step⟩ := X.arraycopy hx hown hlink hnat hstat hini (src := B + y.toNat) (dst := B + x.toNat) (srcPos := Int32.ofInt sp) (destPos := Int32.ofInt dp) (n := Int32.ofInt n) (by rw [hT]; exact hc0) (by rw [hT]; exact hc1)
      (fun _ h => by cases h) (fun _ h => by cases h) (fun h => by cases h) (fun h => by cases h) hk0 hk1 hkk0 hkk1 (by rfl) a1 b1 d1
      (by rw [a2, d2, arrV_size]; omega) (by rw [b2, d2, arrV_size]; omega)
      (fun vm₁ _ i hi => by
        have e : (arrV (aC 0) (sh y).2 (fun j : Nat => mmVal B b g (mmEt 0, h y j))).slots.getD ((Int32.ofInt sp).toNatClampNeg + i) .null = .int (Int32.ofInt (h y (((Int32.ofInt sp).toNatClampNeg + i : Nat)))) := by
          rw [d3] at hi
          rw [Array.getD_eq_getD_getElem?, arrV_read _ _ (by rw [a3]; omega)]
          rfl
        exact ⟨by rw [e]; rfl, by rw [e]; exact trivial⟩)
      (g := F0 m pc lsA (mmVal B b g (1, n) :: mmVal B b g (1, dp) :: .ref (B + x.toNat) :: mmVal B b g (1, sp) :: .ref (B + y.toNat) :: r.map (mmVal B b g))) rfl (by rw [hml]; exact hA.1.1) (rest := r.map (mmVal B b g)) rfl (by rw [hb]; exact hd) hR.1 (by show 2 * 0 + _ + _ ≤ _; rw [mm_cat]; omega)
    have ec : copied (arrV (aC 0) (sh y).2 (fun j : Nat => mmVal B b g (mmEt 0, h y j))) (arrV (aC 0) (sh x).2 (fun j : Nat => mmVal B b g (mmEt 0, h x j))) (Int32.ofInt sp) (Int32.ofInt dp) (Int32.ofInt n) = arrV (aC 0) (sh x).2 (fun j : Nat => mmVal B b g (mmEt 0, va_cpy (fun j : Nat => h y j) (fun j : Nat => h x j) sp.toNat dp.toNat n.toNat j)) := by
      show (arrV _ _ _).storeRun (Int32.ofInt dp).toNatClampNeg ((arrV _ _ _).stretch (Int32.ofInt sp).toNatClampNeg (Int32.ofInt n).toNatClampNeg) = _
      rw [a3, b3, d3]
      exact va_copied (fun z => mmVal B b g (mmEt 0, z)) (aC 0) (aC 0) (fun j : Nat => h y j) (fun j : Nat => h x j) (by omega)
    rw [ec] at X' step
    have e0 : mmCpy h y sp x dp n 0 0 = h 0 0 := by unfold mmCpy; rw [if_neg (by omega)]
    have e1 : mmCpy h y sp x dp n 0 1 = h 0 1 := by unfold mmCpy; rw [if_neg (by omega)]
    have hfun : (fun j : Nat => mmVal B b g (mmEt 0, va_cpy (fun j : Nat => h y j) (fun j : Nat => h x j) sp.toNat dp.toNat n.toNat j)) = fun j : Nat => mmVal B b g (mmEt 0, mmCpy h y sp x dp n x j) := by
      funext j
      congr 2
      unfold va_cpy mmCpy
      rw [if_pos rfl]
      by_cases q : dp.toNat ≤ j ∧ j < dp.toNat + n.toNat
      · rw [if_pos q, if_pos (by omega)]
        have e : ((sp.toNat + (j - dp.toNat) : Nat) : Int) = sp + ((j : Int) - dp) := by omega
        show h y ((sp.toNat + (j - dp.toNat) : Nat) : Int) = _
        rw [e]
      · rw [if_neg q, if_neg (by omega)]
    rw [hfun] at X' step
    have hl : B + x.toNat < H.size := (Array.getElem?_eq_some_iff.mp hc1).1
    have hheap : ((T.setVm vm').setCell (B + x.toNat) (arrV (aC 0) (sh x).2 (fun j : Nat => mmVal B b g (mmEt 0, mmCpy h y sp x dp n x j)))).heap = H.setIfInBounds (B + x.toNat) (arrV (aC 0) (sh x).2 (fun j : Nat => mmVal B b g (mmEt 0, mmCpy h y sp x dp n x j))) := by rw [← hT]; rfl
    have oq : ∀ q : Nat, q ≠ B + x.toNat → (H.setIfInBounds (B + x.toNat) (arrV (aC 0) (sh x).2 (fun j : Nat => mmVal B b g (mmEt 0, mmCpy h y sp x dp n x j))))[q]? = H[q]? := fun q hq => by simp [Array.getElem?_setIfInBounds, Ne.symm hq]
    have hat : va_at D cl (B + x.toNat, mmE sh tg B b g aC x (mmCpy h y sp x dp n x)) (H.setIfInBounds (B + x.toNat) (arrV (aC 0) (sh x).2 (fun j : Nat => mmVal B b g (mmEt 0, mmCpy h y sp x dp n x j)))) := by
      rw [mmE_a (kd := 0) h2]
      show (H.setIfInBounds _ _)[B + x.toNat]? = some (vp_cell _ _)
      rw [mmAr_cell (b := b) (g := g)]
      simp [Array.getElem?_setIfInBounds, hl]
    have hWn : ∀ L2 : List Loc, (∀ q ∈ L2, q.base = B + x.toNat) → mmWH sh tg B b g aC D cl H0 (mmCpy h y sp x dp n) (H.setIfInBounds (B + x.toNat) (arrV (aC 0) (sh x).2 (fun j : Nat => mmVal B b g (mmEt 0, mmCpy h y sp x dp n x j)))) (locs ++ L2) := by
      intro L2 hL2
      obtain ⟨w1, w2, w3, w4, w5, w6⟩ := hW
      refine ⟨?_, by rw [e0]; simp [w2], ⟨by simp; exact w3.1, fun q q1 q2 => ?_, fun q hq => ?_⟩, by rw [e0]; exact w4, by rw [e1]; exact w5, fun a ha hlt => ?_⟩
      · rw [← mmWs_set sh tg B b g aC (h := h) (h' := mmCpy h y sp x dp n) f1 f2 e0 (fun j _ hj => by funext i; unfold mmCpy; rw [if_neg hj]) rfl]
        exact w1.set (mmWs_D sh tg B b g aC h) (mmWs_get sh tg B b g aC f1 f2) hat oq
      · rw [oq q (fun e => q2 (by rw [e]; show B + 1 ≤ B + x.toNat; omega))]
        exact w3.2.1 q q1 q2
      · rcases List.mem_append.mp hq with q1 | q1
        · exact w3.2.2 q q1
        · rw [hL2 q q1]
          show B + 1 ≤ B + x.toNat
          omega
      · rw [e0] at hlt ⊢
        obtain ⟨p1, p2⟩ := w6 a ha hlt
        refine ⟨p1, fun i hi => ?_⟩
        unfold mmCpy
        by_cases ea : a = x
        · rw [if_pos ea]
          subst ea
          by_cases q : dp ≤ (i : Int) ∧ (i : Int) < dp + n
          · rw [if_pos q]
            have := conty (sp + ((i : Int) - dp)).toNat (by omega)
            rw [mmTg_a (kd := 0) (by omega)] at this
            rw [mmTg_a (kd := 0) (by omega)]
            have e : (((sp + ((i : Int) - dp)).toNat : Nat) : Int) = sp + ((i : Int) - dp) := by omega
            rw [e] at this
            exact this
          · rw [if_neg q]
            exact p2 i hi
        · rw [if_neg ea]
          exact p2 i hi
    have hcnt := hA.2.2.2.2.2
    have hA2 : ∀ L2 : List Loc, (∀ q ∈ L2, q.base = B + x.toNat) → mmIn sh tg B b g aC R H0 D cl nL n0 z0 ls r (mmCpy h y sp x dp n) (H.setIfInBounds (B + x.toNat) (arrV (aC 0) (sh x).2 (fun j : Nat => mmVal B b g (mmEt 0, mmCpy h y sp x dp n x j)))) (locs ++ L2) lsA :=
      fun L2 hL2 => ⟨hA.1, hA.2.1, by rw [e0]; exact hA.2.2.1, by rw [e0]; exact mm_tail (mm_tail (mm_tail (mm_tail (mm_tail hs)))), hWn L2 hL2, by rw [e0]; exact hcnt.1, by rw [e1]; exact hcnt.2.1, by rw [e0]; exact hcnt.2.2.1, by rw [e1]; exact hcnt.2.2.2⟩
    have key := fun L2 hL2 => hk ls r _ _ (locs ++ L2) lsA hp2 (hA2 L2 hL2)
    rw [e0, e1] at key
    obtain ⟨t, q1, q2⟩ := key _ (fun q hq => by
      obtain ⟨z, -, hz⟩ := List.mem_map.mp hq
      rw [← hz]) _ hheap X'
    exact ⟨t, step t q1, q2⟩
end MR8
end
section
/-! ===== mm: which instructions are an op ===== -/
/-- a program's tables: (place of its own kind, number in the pool, ..): fields (kind, slot), methods (number, 0 object's, 1 static, 2 constructor), ints, longs, kinds made, Object's constructor, arraycopy, rows of objects, grids, the text -/
abbrev mmT : Type := List (Nat × Nat × Nat × Nat) × List (Nat × Nat × Nat × Nat) × List (Nat × Nat × Int) × List (Nat × Nat × Int) × List (Nat × Nat × Nat) × List (Nat × Nat) × List (Nat × Nat) × List (Nat × Nat) × List (Nat × Nat) × List (Nat × Nat)
def mmB1 (q : Bool) (c : Instr × Nat) : List (Instr × Nat) := bif q then [c] else []
theorem mmB1_in {q : Bool} {c z : Instr × Nat} (h : z ∈ mmB1 q c) : q = true ∧ z = c := by
  cases q with
  | false => cases h
  | true => exact ⟨rfl, List.mem_singleton.mp h⟩
def mmF4 (i : Nat) : Fin 4 := ⟨i % 4, Nat.mod_lt _ (by omega)⟩
theorem mmF4_v {i : Nat} (h : i < 4) : (mmF4 i).val = i := Nat.mod_eq_of_lt h
def mmCond : Nat → ClassFile.Cond
  | 0 => .eq
  | 1 => .ne
  | 2 => .lt
  | 3 => .ge
  | 4 => .gt
  | _ => .le
def mmI2i : Nat → Instr
  | 0 => .iadd
  | 1 => .isub
  | 2 => .imul
  | 3 => .iand
  | 4 => .ior
  | 5 => .ixor
  | 6 => .ishl
  | 7 => .ishr
  | _ => .iushr
def mmL2i' : Nat → Instr
  | 0 => .ladd
  | 1 => .lsub
  | 2 => .lmul
  | 3 => .land
  | 4 => .lor
  | _ => .lxor
def mmDvi : Nat → Instr
  | 0 => .idiv
  | 1 => .irem
  | 2 => .ldiv
  | _ => .lrem
def mmStki : Nat → Instr
  | 0 => .dup
  | 1 => .dup2
  | _ => .pop
def mmAldi : Nat → Instr
  | 0 => .iaload
  | 1 => .laload
  | 2 => .caload
  | 3 => .baload
  | _ => .aaload
def mmAsti : Nat → Instr
  | 0 => .iastore
  | 1 => .lastore
  | 2 => .castore
  | 3 => .bastore
  | _ => .aastore
def mmAty : Nat → ArrayType
  | 0 => .int
  | 1 => .long
  | 2 => .char
  | _ => .boolean
def mmR32 (x : Int) : Bool := decide (-2147483648 ≤ x ∧ x < 2147483648)
def mmR64 (x : Int) : Bool := decide (-9223372036854775808 ≤ x ∧ x < 9223372036854775808)
/-- is it a constructor; the script; the answer's tag; the slots that may be written once -/
def mmCand (tb : mmT) (fin : Nat → Nat → Bool) (ow : Nat) (isInit sc : Bool) (rt : Nat) (pcs : List Nat) (pc : Nat) (op : mmOp) : List (Instr × Nat) :=
  let a := op.2.1
  let x := op.2.2.headD 0
  let y := (op.2.2.getD 1 0).toNat
  let n := a.toNat
  let off : Int → Int := fun b => ((pcs.getD b.toNat 0 : Nat) : Int) - (pc : Int)
  match op.1 with
  | 0 => match n with
    | 1 => mmB1 (mmR32 x && decide (Int32.ofInt x = Int32.ofInt x)) (.iconst x, 1) ++ (mmB1 (mmR32 x && decide ((Int8.ofInt x).toInt32 = Int32.ofInt x)) (.bipush x, 2) ++ (mmB1 (mmR32 x && decide ((Int16.ofInt x).toInt32 = Int32.ofInt x)) (.sipush x, 3) ++ (mmB1 (mmR32 x && decide ((ow, y, x) ∈ tb.2.2.1)) (.ldc y, 2) ++ mmB1 (mmR32 x && decide ((ow, y, x) ∈ tb.2.2.1)) (.ldc_w y, 3))))
    | 2 => mmB1 (decide (x = 0)) (.lconst 0, 1) ++ (mmB1 (decide (x = 1)) (.lconst 1, 1) ++ mmB1 (mmR64 x && decide ((ow, y, x) ∈ tb.2.2.2.1)) (.ldc2_w y, 3))
    | 5 => mmB1 (decide (x = 0) && decide ((ow, y) ∈ tb.2.2.2.2.2.2.2.2.2)) (.ldc y, 2)
    | _ => []
  | 1 => match x.toNat with
    | 1 => mmB1 (Nat.blt n 4) (.iload_n (mmF4 n), 1) ++ [(.iload n, 2)]
    | 2 => mmB1 (Nat.blt n 4) (.lload_n (mmF4 n), 1) ++ [(.lload n, 2)]
    | 3 => mmB1 (Nat.blt n 4) (.aload_n (mmF4 n), 1) ++ [(.aload n, 2)]
    | 4 => mmB1 (Nat.blt n 4) (.aload_n (mmF4 n), 1) ++ [(.aload n, 2)]
    | _ => []
  | 2 => match x.toNat with
    | 1 => mmB1 (Nat.blt n 4) (.istore_n (mmF4 n), 1) ++ [(.istore n, 2)]
    | 2 => mmB1 (Nat.blt n 4) (.lstore_n (mmF4 n), 1) ++ [(.lstore n, 2)]
    | 3 => mmB1 (Nat.blt n 4) (.astore_n (mmF4 n), 1) ++ [(.astore n, 2)]
    | _ => []
  | 3 => [(.iinc n x, 3)]
  | 4 => mmB1 (Nat.blt n 9) (mmI2i n, 1)
  | 5 => mmB1 (Nat.blt n 6) (mmL2i' n, 1)
  | 6 => mmB1 (Nat.blt n 4) (mmDvi n, 1)
  | 7 => match n with
    | 0 => [(.i2l, 1)]
    | 1 => [(.l2i, 1)]
    | _ => []
  | 8 => [(.lcmp, 1)]
  | 9 => mmB1 (Nat.blt n 3) (mmStki n, 1)
  | 10 => mmB1 (decide ((ow, y, n, x.toNat) ∈ tb.1)) (.getfield y, 3)
  | 11 => mmB1 (decide ((ow, y, n, x.toNat) ∈ tb.1) && (!fin n x.toNat || (isInit && Nat.beq ow n))) (.putfield y, 3)
  | 12 => mmB1 (Nat.blt n 6) (mmAldi n, 1)
  | 13 => mmB1 (Nat.blt n 6 && !Nat.beq n 4) (mmAsti n, 1)
  | 14 => [(.arraylength, 1)]
  | 15 => mmB1 (Nat.blt n 6) (.ifCond (mmCond n) (off x), 3)
  | 16 => mmB1 (Nat.blt n 6) (.if_icmp (mmCond n) (off x), 3)
  | 17 => [(.goto (off a), 3)]
  | 20 => mmB1 (Nat.beq n rt && Nat.blt n 5) (match n with
    | 0 => (.return_, 1)
    | 2 => (.lreturn, 1)
    | 3 => (.areturn, 1)
    | _ => (.ireturn, 1))
  | 21 => match x.toNat with
    | 0 => mmB1 (decide ((ow, y, n, 0) ∈ tb.2.1)) (.invokevirtual y, 3)
    | 1 => mmB1 (decide ((ow, y, n, 1) ∈ tb.2.1)) (.invokestatic y, 3)
    | 2 => mmB1 (decide ((ow, y, n, 2) ∈ tb.2.1)) (.invokespecial y, 3)
    | _ => []
  | 22 => mmB1 (decide ((ow, y, n) ∈ tb.2.2.2.2.1)) (.new y, 3)
  | 23 => match n with
    | 5 => mmB1 (decide ((ow, y) ∈ tb.2.2.2.2.2.2.2.1)) (.anewarray y, 3)
    | _ => mmB1 (Nat.blt n 4) (.newarray (mmAty n), 2)
  | 24 => mmB1 (decide ((ow, y) ∈ tb.2.2.2.2.2.2.2.2.1)) (.multianewarray y 2, 4)
  | 25 => mmB1 (decide ((ow, y) ∈ tb.2.2.2.2.2.2.1)) (.invokestatic y, 3)
  | 26 => mmB1 (decide ((ow, y) ∈ tb.2.2.2.2.2.1)) (.invokespecial y, 3)
  | 27 => mmB1 sc (.iaload, 1)
  | 28 => mmB1 sc (.arraylength, 1)
  | 29 => mmB1 (decide ((ow, 100000 + y) ∈ tb.2.2.2.2.2.2.2.2.2)) (.invokevirtual y, 3)
  | 30 => mmB1 (decide ((ow, 200000 + y) ∈ tb.2.2.2.2.2.2.2.2.2)) (.invokevirtual y, 3)
  | 31 => mmB1 (Nat.blt n 5 && decide ((ow, 300000 + 10000 * n + y) ∈ tb.2.2.2.2.2.2.2.2.2)) (.invokestatic y, 3)
  | _ => []
def mmLck (off : Int → Int) : List (Int × Int) → List Int → Bool
  | [], [] => true
  | q :: ps, k :: t :: r => decide (k = q.1) && (decide (off t = q.2) && mmLck off ps r)
  | _, _ => false
/-- switches: they have a length of their own -/
def mmSw (pcs : List Nat) (pc : Nat) (op : mmOp) (i : Instr) : Bool :=
  let off : Int → Int := fun b => ((pcs.getD b.toNat 0 : Nat) : Int) - (pc : Int)
  match op.1, op.2.2, i with
  | 18, d :: ts, .tableswitch dd lo hi offs => decide (dd = off d) && (decide (lo = op.2.1) && (decide (hi = op.2.1 + (ts.length : Int) - 1) && decide (offs = (ts.map off).toArray)))
  | 19, d :: ts, .lookupswitch dd ps => decide (dd = off d) && ((ps.toList.zip (ps.toList.drop 1)).all (fun (a, next) => decide (a.1 < next.1)) && mmLck off ps.toList ts)
  | _, _, _ => false
def mmEnds (op : mmOp) : Bool := Nat.beq op.1 17 || Nat.beq op.1 20
def mmChkB (tb : mmT) (fin : Nat → Nat → Bool) (ow : Nat) (isInit sc : Bool) (rt : Nat) (cc : ByteArray) (pcs : List Nat) : Nat → List mmOp → Bool
  | _, [] => false
  | pc, op :: ops => (Nat.beq op.1 17 && (decide (op.2.2 = []) && decide (pcs[op.2.1.toNat]? = some pc))) ||
    match decode cc pc with
    | .ok q => ((mmCand tb fin ow isInit sc rt pcs pc op).any (fun z => decide (q = z)) && (mmEnds op || mmChkB tb fin ow isInit sc rt cc pcs (pc + q.2) ops)) || mmSw pcs pc op q.1
    | _ => false
def mmChk (tb : mmT) (fin : Nat → Nat → Bool) (ow : Nat) (isInit sc : Bool) (rt : Nat) (cc : ByteArray) (pcs : List Nat) (blks : List (List mmOp)) : Bool :=
  decide (pcs[0]? = some 0) && (decide (pcs.length = blks.length) && (List.range pcs.length).all (fun b => mmChkB tb fin ow isInit sc rt cc pcs (pcs.getD b 0) (blks.getD b [])))
end
section
/-! ===== mm: a checked op is sound ===== -/
/-- what the tables' words say -/
def mmFT (sh : Int → Nat × Nat) (tg : Nat → Nat → Nat) (tb : mmT) (fin : Nat → Nat → Bool) (onm : Nat → String) (cl : List vw_C) (mp : Nat → mmM) (yM : Nat → MethodName) (bM : Nat → ByteArray) (lM : Nat → Nat) (rM : Nat → Option FieldType) (TW : List Cond) : Prop :=
  (∀ w ∈ TW, goodWord w = true) ∧
  (∀ ci C T N, cl[ci]? = some (C, T, N) → onm ci = C ∧ (∀ w ∈ u_ws C T N, w ∈ TW) ∧ (∀ x, (sh x).1 = ci → (sh x).2 = N) ∧ (∃ ty : Nat → FieldType, (∀ k, k < N → parseFieldDescriptor (T k).2.2.1 = some (ty k)) ∧ ∀ f, f < N → tg ci f = mmTy (ty f) ∧ tg ci f ≠ 0) ∧ (∀ a, a < N → ∀ b, b < N → a ≠ b → (T a).2.1 ≠ (T b).2.1)) ∧
  (∀ ow idx ci f, (ow, idx, ci, f) ∈ tb.1 → ∃ C T N, cl[ci]? = some (C, T, N) ∧ ci < 99 ∧ f < N ∧ Cond.fieldLink (onm ow) idx (T f).1 (T f).2.1 (T f).2.2.1 ∈ TW ∧ (T f).2.2.2 = fin ci f ∧ (T f).1 = C) ∧
  (∀ ow idx mi kd, (ow, idx, mi, kd) ∈ tb.2.1 → Cond.methodLink (onm ow) idx (yM mi) ∈ TW ∧ Cond.code (yM mi) (bM mi) (lM mi) (rM mi) ∈ TW ∧ Cond.initialized (yM mi).cls ∈ TW ∧ ((yM mi).cls ≠ "java/lang/invoke/MethodHandle" ∧ (yM mi).cls ≠ "java/lang/invoke/VarHandle") ∧ ((mp mi).2.1 = 0 ∨ mmRt (mp mi).2.1 ≠ 0) ∧
    ((kd = 1 ∧ (mp mi).2.2.1 = 99 ∧ Cond.static (yM mi) ∈ TW ∧ (parseMethodDescriptor (yM mi).desc).map (fun d => d.parameters.length) = some (mp mi).1.length) ∨
     ((kd = 0 ∨ kd = 2) ∧ (mp mi).2.2.1 < 99 ∧ (∃ T N, cl[(mp mi).2.2.1]? = some ((yM mi).cls, T, N)) ∧ (∃ ts, (mp mi).1.reverse = 3 :: ts ∧ (parseMethodDescriptor (yM mi).desc).map (fun d => d.parameters.length) = some ts.length) ∧ Cond.instanceMethod (yM mi) ∈ TW ∧ (kd = 0 → Cond.selects (yM mi).cls (yM mi) (yM mi) ∈ TW) ∧ (kd = 2 → (yM mi).name = "<init>" ∧ rM mi = none)))) ∧
  (∀ ow idx x, (ow, idx, x) ∈ tb.2.2.1 → Jvm.Cond.constant (onm ow) idx (Int32.ofInt x) ∈ TW) ∧
  (∀ ow idx x, (ow, idx, x) ∈ tb.2.2.2.1 → Jvm.Cond.constantLong (onm ow) idx (Int64.ofInt x) ∈ TW) ∧
  (∀ ow idx ci, (ow, idx, ci) ∈ tb.2.2.2.2.1 → ∃ C T N, cl[ci]? = some (C, T, N) ∧ ci < 99 ∧ Cond.classLink (onm ow) idx C ∈ TW ∧ Cond.instantiable C N ∈ TW ∧ Cond.initialized C ∈ TW) ∧
  (∀ ow idx, (ow, idx) ∈ tb.2.2.2.2.2.1 → Cond.methodLink (onm ow) idx Lib.objectInit ∈ TW ∧ Cond.instanceMethod Lib.objectInit ∈ TW ∧ Cond.code Lib.objectInit ⟨#[0xb1]⟩ 1 none ∈ TW) ∧
  (∀ ow idx, (ow, idx) ∈ tb.2.2.2.2.2.2.1 → Cond.methodLink (onm ow) idx arraycopyName ∈ TW ∧ Cond.native arraycopyName ∈ TW ∧ Cond.static arraycopyName ∈ TW ∧ Cond.initialized "java/lang/System" ∈ TW) ∧
  (∀ ow idx, (ow, idx) ∈ tb.2.2.2.2.2.2.2.1 → Cond.classLink (onm ow) idx "TileHeel$Roofs" ∈ TW) ∧
  (∀ kd, kd < 4 → Cond.arrayClass (mmKt kd) ∈ TW) ∧ (sh 0).1 = 99 ∧ (∃ T N, cl[4]? = some ("TileHeel$Roofs", T, N))
section MS1
variable {sh : Int → Nat × Nat} {tg : Nat → Nat → Nat} {B b g : Nat} {aC : Nat → ClassId} {p : Program} {l : Launch} {e : Env} {R : Room} {s : State} {m : MethodId} {args : Array Value} {below : List Frame} {meth : Method} {c : Code} {H0 : Heap} {D : va_G} {cl : List vw_C} {nL n0 z0 : Nat} {Qm : State → Prop}
variable {cc : ByteArray} {tys : List (ClassId × FieldType)} {wn : Int → Bool} {tb : mmT} {fin : Nat → Nat → Bool} {onm : Nat → String} {mp : Nat → mmM} {yM : Nat → MethodName} {bM : Nat → ByteArray} {lM : Nat → Nat} {rM : Nat → Option FieldType} {TW Ts : List Cond}
variable {K : Nat → List Int → mmH → (Int → mmH → Prop) → Prop} {Q : Int → mmH → Prop} {X : Nat → mmKont} {mc ms L : Int} {xs : Int → Int} {tx : List Int} {k : mmKont}
/-- the method at hand: the machine, its words, the numbers of rows -/
def mmCx (nm : String) (sc : Bool) (ow rt : Nat) (aC : Nat → ClassId) (p : Program) (l : Launch) (R : Room) (s : State) (m : MethodId) (args : Array Value) (meth : Method) (c : Code) (D : va_G) (cl : List vw_C) (nL B b : Nat) (cc : ByteArray) (tys : List (ClassId × FieldType)) (onm : Nat → String) (TW Ts : List Cond) (mc ms L : Int) (xs : Int → Int) (H0 : Heap) (sh : Int → Nat × Nat) : Prop :=
  p.tables.exec = Jvm.exec ∧ c.code = cc ∧ c.maxLocals = nL ∧ s.vm.findClass (onm ow) = some m.cls ∧ (∀ w ∈ Ts, w.before args s = true) ∧ (∀ w ∈ TW, w ∈ Ts) ∧ mmKA D cl tys s ∧ (∀ kd, kd < 6 → tys[kd]? = some (aC kd, mmKt kd)) ∧ mc = (R.cells : Int) ∧ ms = (R.slots : Int) ∧ (1 ≤ R.frames ∧ 8 + (nativeFrameWords "java/lang/System" "arraycopy" 5 + 11) ≤ R.locals ∧ 20 ≤ R.locals) ∧
  meth.name = nm ∧ (sc = true → ∃ (Ln : Nat) (xs' : Nat → Int32), va_X b Ln xs' s H0 ∧ b < H0.size ∧ b ≤ B ∧ L = (Ln : Int) ∧ Ln < 2147483648 ∧ ∀ j : Nat, j < Ln → xs j = (xs' j).toInt) ∧ (∀ x, (sh x).1 < 106)
theorem mm_good (hG : ∀ w ∈ TW, goodWord w = true) (hT : ∀ w ∈ TW, w ∈ Ts) {x : Cond} (hx : x ∈ TW) : GoodIn Ts (x :: TW) := fun w hw => by
  rcases List.mem_cons.mp hw with q | q
  · rw [q]; exact ⟨hT x hx, good_of_word (hG x hx)⟩
  · exact ⟨hT w q, good_of_word (hG w q)⟩
theorem mm_ty : ∀ kd : Nat, kd < 4 → newarray.typeOf (mmAty kd) = mmKt kd
  | 0, _ => rfl
  | 1, _ => rfl
  | 2, _ => rfl
  | 3, _ => rfl
set_option maxHeartbeats 4000000 in
theorem ks_op {ow rt pc : Nat} {isInit sc : Bool} {nm : String} {pcs : List Nat} {op : mmOp} {q : Instr × Nat} {rmM : Nat → Room} (hF : mmFT sh tg tb fin onm cl mp yM bM lM rM TW) (hC : mmCx nm sc ow rt aC p l R s m args meth c D cl nL B b cc tys onm TW Ts mc ms L xs H0 sh) (hinit : isInit = true → nm = "<init>")
    (hKs : ∀ mi as h Qc, K mi as h Qc → mmMet sh tg B b g aC D cl tys l (yM mi) (.code (yM mi) (bM mi) (lM mi) (rM mi) :: TW) (rmM mi) (mp mi).1.reverse (mp mi).2.1 (mp mi).2.2.2.1 (mp mi).2.2.2.2.1 as h Qc)
    (hroom : ∀ mi, (rmM mi).cells = (mp mi).2.2.2.1 ∧ (rmM mi).slots = (mp mi).2.2.2.2.1 ∧ (rmM mi).frames + 1 ≤ R.frames ∧ 8 + (lM mi + 11) + (rmM mi).locals ≤ R.locals)
    (hret : ∀ (pc' : Nat), (rt = 0 ∧ decode cc pc' = .ok (.return_, 1)) ∨ (rt = 1 ∧ decode cc pc' = .ok (.ireturn, 1)) ∨ (rt = 2 ∧ decode cc pc' = .ok (.lreturn, 1)) ∨ (rt = 3 ∧ decode cc pc' = .ok (.areturn, 1)) ∨ (rt = 4 ∧ decode cc pc' = .ok (.ireturn, 1)) → mmKS sh tg B b g aC p l e R s m args below meth c H0 D cl nL n0 z0 Qm pc' (oRet Q rt))
    (htext : ∀ (pc' idx : Nat) (k' : mmKont), ((ow, idx) ∈ tb.2.2.2.2.2.2.2.2.2 → decode cc pc' = .ok (.ldc idx, 2) → mmKS sh tg B b g aC p l e R s m args below meth c H0 D cl nL n0 z0 Qm (pc' + 2) k' → mmKS sh tg B b g aC p l e R s m args below meth c H0 D cl nL n0 z0 Qm pc' (oPush 5 0 k')) ∧ ((ow, 100000 + idx) ∈ tb.2.2.2.2.2.2.2.2.2 → decode cc pc' = .ok (.invokevirtual idx, 3) → mmKS sh tg B b g aC p l e R s m args below meth c H0 D cl nL n0 z0 Qm (pc' + 3) k' → mmKS sh tg B b g aC p l e R s m args below meth c H0 D cl nL n0 z0 Qm pc' (oTlen tx k')) ∧ ((ow, 200000 + idx) ∈ tb.2.2.2.2.2.2.2.2.2 → decode cc pc' = .ok (.invokevirtual idx, 3) → mmKS sh tg B b g aC p l e R s m args below meth c H0 D cl nL n0 z0 Qm (pc' + 3) k' → mmKS sh tg B b g aC p l e R s m args below meth c H0 D cl nL n0 z0 Qm pc' (oTat tx k')) ∧ ∀ f : Nat, f < 5 → (ow, 300000 + 10000 * f + idx) ∈ tb.2.2.2.2.2.2.2.2.2 → decode cc pc' = .ok (.invokestatic idx, 3) → mmKS sh tg B b g aC p l e R s m args below meth c H0 D cl nL n0 z0 Qm (pc' + 3) k' → mmKS sh tg B b g aC p l e R s m args below meth c H0 D cl nL n0 z0 Qm pc' (oMath f k'))
    (hgrid : ∀ (pc' idx : Nat) (k' : mmKont), (ow, idx) ∈ tb.2.2.2.2.2.2.2.2.1 → decode cc pc' = .ok (.multianewarray idx 2, 4) → mmKS sh tg B b g aC p l e R s m args below meth c H0 D cl nL n0 z0 Qm (pc' + 4) k' → mmKS sh tg B b g aC p l e R s m args below meth c H0 D cl nL n0 z0 Qm pc' (oNewM sh n0 z0 mc ms k'))
    (hX : ∀ bl : Nat, mmKS sh tg B b g aC p l e R s m args below meth c H0 D cl nL n0 z0 Qm (pcs.getD bl 0) (X bl)) (hd : decode cc pc = .ok q) (hq : q ∈ mmCand tb fin ow isInit sc rt pcs pc op) (hk : mmEnds op = false → mmKS sh tg B b g aC p l e R s m args below meth c H0 D cl nL n0 z0 Qm (pc + q.2) k) :
    mmKS sh tg B b g aC p l e R s m args below meth c H0 D cl nL n0 z0 Qm pc (mmStep sh tg (fun _ _ => none) wn mp K Q X n0 z0 mc ms L xs tx op.1 op.2.1 op.2.2 k) := by
  obtain ⟨F1, F2, F3, F4, F5, F6, F7, F8, F9, F10, F11, F12, F13⟩ := hF
  obtain ⟨hx, hb, hml, hown, hts, hTW, hKA, htys, hmc, hms, ⟨hR1, hR2, hR3⟩, hnm, hsc, hsh6⟩ := hC
  have hKx := hKA.1
  have tw : ∀ w ∈ TW, w.before args s = true := fun w hw => hts w (hTW w hw)
  obtain ⟨o, a, li⟩ := op
  simp only [] at *
  match o, hq, hk with
  | 0, hq, hk =>
    have hk := hk rfl
    show mmKS sh tg B b g aC p l e R s m args below meth c H0 D cl nL n0 z0 Qm pc (oPush a.toNat (li.headD 0) k)
    simp only [mmCand] at hq
    generalize hn : a.toNat = n at hq ⊢
    match n, hq with
    | 1, hq =>
      simp only [List.mem_append] at hq
      rcases hq with hq | hq | hq | hq | hq
      · obtain ⟨q1, rfl⟩ := mmB1_in hq
        simp only [Bool.and_eq_true, mmR32, decide_eq_true_eq] at q1
        exact ks_push1 hx hb q1.1 (Or.inl ⟨hd, rfl, rfl⟩) hk
      · obtain ⟨q1, rfl⟩ := mmB1_in hq
        simp only [Bool.and_eq_true, mmR32, decide_eq_true_eq] at q1
        exact ks_push1 hx hb q1.1 (Or.inr (Or.inl ⟨hd, rfl, q1.2⟩)) hk
      · obtain ⟨q1, rfl⟩ := mmB1_in hq
        simp only [Bool.and_eq_true, mmR32, decide_eq_true_eq] at q1
        exact ks_push1 hx hb q1.1 (Or.inr (Or.inr ⟨hd, rfl, q1.2⟩)) hk
      · obtain ⟨q1, rfl⟩ := mmB1_in hq
        simp only [Bool.and_eq_true, mmR32, decide_eq_true_eq] at q1
        exact ks_ldc hx hb q1.1 hown (tw _ (F5 _ _ _ q1.2)) hd hk
      · obtain ⟨q1, rfl⟩ := mmB1_in hq
        simp only [Bool.and_eq_true, mmR32, decide_eq_true_eq] at q1
        exact ks_ldcw hx hb q1.1 hown (tw _ (F5 _ _ _ q1.2)) hd hk
    | 2, hq =>
      simp only [List.mem_append] at hq
      rcases hq with hq | hq | hq
      · obtain ⟨q1, rfl⟩ := mmB1_in hq
        exact ks_lconst hx hb (i := 0) (of_decide_eq_true q1) hd hk
      · obtain ⟨q1, rfl⟩ := mmB1_in hq
        exact ks_lconst hx hb (i := 1) (of_decide_eq_true q1) hd hk
      · obtain ⟨q1, rfl⟩ := mmB1_in hq
        simp only [Bool.and_eq_true, mmR64, decide_eq_true_eq] at q1
        exact ks_ldc2 hx hb q1.1 hown (tw _ (F6 _ _ _ q1.2)) hd hk
    | 5, hq =>
      obtain ⟨q1, rfl⟩ := mmB1_in hq
      simp only [Bool.and_eq_true, decide_eq_true_eq] at q1
      rw [q1.1]
      exact (htext _ _ _).1 q1.2 hd hk
    | 0, hq => cases hq
    | 3, hq => cases hq
    | 4, hq => cases hq
    | n + 6, hq => cases hq
  | 1, hq, hk =>
    have hk := hk rfl
    show mmKS sh tg B b g aC p l e R s m args below meth c H0 D cl nL n0 z0 Qm pc (oLoad a.toNat (li.headD 0).toNat k)
    simp only [mmCand] at hq
    generalize hn : (li.headD 0).toNat = t at hq ⊢
    match t, hq with
    | 1, hq =>
      rcases List.mem_append.mp hq with hq | hq
      · obtain ⟨q1, rfl⟩ := mmB1_in hq
        exact ks_load hx hb (Or.inl ⟨rfl, Or.inl ⟨_, hd, mmF4_v (mm_blt q1), rfl⟩⟩) hk
      · obtain rfl := List.mem_singleton.mp hq
        exact ks_load hx hb (Or.inl ⟨rfl, Or.inr ⟨hd, rfl⟩⟩) hk
    | 2, hq =>
      rcases List.mem_append.mp hq with hq | hq
      · obtain ⟨q1, rfl⟩ := mmB1_in hq
        exact ks_load hx hb (Or.inr ⟨rfl, Or.inl ⟨_, hd, mmF4_v (mm_blt q1), rfl⟩⟩) hk
      · obtain rfl := List.mem_singleton.mp hq
        exact ks_load hx hb (Or.inr ⟨rfl, Or.inr ⟨hd, rfl⟩⟩) hk
    | 3, hq =>
      rcases List.mem_append.mp hq with hq | hq
      · obtain ⟨q1, rfl⟩ := mmB1_in hq
        exact ks_aload hx hb (Or.inl rfl) (Or.inl ⟨_, hd, mmF4_v (mm_blt q1), rfl⟩) hk
      · obtain rfl := List.mem_singleton.mp hq
        exact ks_aload hx hb (Or.inl rfl) (Or.inr ⟨hd, rfl⟩) hk
    | 4, hq =>
      rcases List.mem_append.mp hq with hq | hq
      · obtain ⟨q1, rfl⟩ := mmB1_in hq
        exact ks_aload hx hb (Or.inr (Or.inl rfl)) (Or.inl ⟨_, hd, mmF4_v (mm_blt q1), rfl⟩) hk
      · obtain rfl := List.mem_singleton.mp hq
        exact ks_aload hx hb (Or.inr (Or.inl rfl)) (Or.inr ⟨hd, rfl⟩) hk
    | 0, hq => cases hq
    | n + 5, hq => cases hq
  | 2, hq, hk =>
    have hk := hk rfl
    show mmKS sh tg B b g aC p l e R s m args below meth c H0 D cl nL n0 z0 Qm pc (oStore a.toNat (li.headD 0).toNat k)
    simp only [mmCand] at hq
    generalize hn : (li.headD 0).toNat = t at hq ⊢
    match t, hq with
    | 1, hq =>
      rcases List.mem_append.mp hq with hq | hq
      · obtain ⟨q1, rfl⟩ := mmB1_in hq
        exact ks_istore hx hb (Or.inl ⟨_, hd, mmF4_v (mm_blt q1), rfl⟩) hk
      · obtain rfl := List.mem_singleton.mp hq
        exact ks_istore hx hb (Or.inr ⟨hd, rfl⟩) hk
    | 2, hq =>
      rcases List.mem_append.mp hq with hq | hq
      · obtain ⟨q1, rfl⟩ := mmB1_in hq
        exact ks_lstore hx hb (Or.inl ⟨_, hd, mmF4_v (mm_blt q1), rfl⟩) hk
      · obtain rfl := List.mem_singleton.mp hq
        exact ks_lstore hx hb (Or.inr ⟨hd, rfl⟩) hk
    | 3, hq =>
      rcases List.mem_append.mp hq with hq | hq
      · obtain ⟨q1, rfl⟩ := mmB1_in hq
        exact ks_astore hx hb (Or.inl ⟨_, hd, mmF4_v (mm_blt q1), rfl⟩) hk
      · obtain rfl := List.mem_singleton.mp hq
        exact ks_astore hx hb (Or.inr ⟨hd, rfl⟩) hk
    | 0, hq => cases hq
    | n + 4, hq => cases hq
  | 3, hq, hk =>
    obtain rfl := List.mem_singleton.mp hq
    exact ks_iinc hx hb hd (hk rfl)
  | 4, hq, hk =>
    have hk := hk rfl
    show mmKS sh tg B b g aC p l e R s m args below meth c H0 D cl nL n0 z0 Qm pc (oI2 a.toNat k)
    simp only [mmCand] at hq
    obtain ⟨q1, rfl⟩ := mmB1_in hq
    have q2 := mm_blt q1
    generalize hn : a.toNat = n at q2 hd hk ⊢
    match n, q2, hd, hk with
    | 0, _, hd, hk => exact ks_int hx hb (Or.inl ⟨rfl, hd⟩) hk
    | 1, _, hd, hk => exact ks_int hx hb (Or.inr (Or.inl ⟨rfl, hd⟩)) hk
    | 2, _, hd, hk => exact ks_int hx hb (Or.inr (Or.inr (Or.inl ⟨rfl, hd⟩))) hk
    | 3, _, hd, hk => exact ks_int hx hb (Or.inr (Or.inr (Or.inr (Or.inl ⟨rfl, hd⟩)))) hk
    | 4, _, hd, hk => exact ks_int hx hb (Or.inr (Or.inr (Or.inr (Or.inr (Or.inl ⟨rfl, hd⟩))))) hk
    | 5, _, hd, hk => exact ks_int hx hb (Or.inr (Or.inr (Or.inr (Or.inr (Or.inr (Or.inl ⟨rfl, hd⟩)))))) hk
    | 6, _, hd, hk => exact ks_int hx hb (Or.inr (Or.inr (Or.inr (Or.inr (Or.inr (Or.inr (Or.inl ⟨rfl, hd⟩))))))) hk
    | 7, _, hd, hk => exact ks_int hx hb (Or.inr (Or.inr (Or.inr (Or.inr (Or.inr (Or.inr (Or.inr (Or.inl ⟨rfl, hd⟩)))))))) hk
    | 8, _, hd, hk => exact ks_int hx hb (Or.inr (Or.inr (Or.inr (Or.inr (Or.inr (Or.inr (Or.inr (Or.inr ⟨rfl, hd⟩)))))))) hk
  | 5, hq, hk =>
    have hk := hk rfl
    show mmKS sh tg B b g aC p l e R s m args below meth c H0 D cl nL n0 z0 Qm pc (oL2 a.toNat k)
    simp only [mmCand] at hq
    obtain ⟨q1, rfl⟩ := mmB1_in hq
    have q2 := mm_blt q1
    generalize hn : a.toNat = n at q2 hd hk ⊢
    match n, q2, hd, hk with
    | 0, _, hd, hk => exact ks_long hx hb (Or.inl ⟨rfl, hd⟩) hk
    | 1, _, hd, hk => exact ks_long hx hb (Or.inr (Or.inl ⟨rfl, hd⟩)) hk
    | 2, _, hd, hk => exact ks_long hx hb (Or.inr (Or.inr (Or.inl ⟨rfl, hd⟩))) hk
    | 3, _, hd, hk => exact ks_long hx hb (Or.inr (Or.inr (Or.inr (Or.inl ⟨rfl, hd⟩)))) hk
    | 4, _, hd, hk => exact ks_long hx hb (Or.inr (Or.inr (Or.inr (Or.inr (Or.inl ⟨rfl, hd⟩))))) hk
    | 5, _, hd, hk => exact ks_long hx hb (Or.inr (Or.inr (Or.inr (Or.inr (Or.inr ⟨rfl, hd⟩))))) hk
  | 6, hq, hk =>
    have hk := hk rfl
    show mmKS sh tg B b g aC p l e R s m args below meth c H0 D cl nL n0 z0 Qm pc (oDv a.toNat k)
    simp only [mmCand] at hq
    obtain ⟨q1, rfl⟩ := mmB1_in hq
    have q2 := mm_blt q1
    generalize hn : a.toNat = n at q2 hd hk ⊢
    match n, q2, hd, hk with
    | 0, _, hd, hk => exact ks_div hx hb (Or.inl ⟨rfl, hd⟩) hk
    | 1, _, hd, hk => exact ks_div hx hb (Or.inr (Or.inl ⟨rfl, hd⟩)) hk
    | 2, _, hd, hk => exact ks_div hx hb (Or.inr (Or.inr (Or.inl ⟨rfl, hd⟩))) hk
    | 3, _, hd, hk => exact ks_div hx hb (Or.inr (Or.inr (Or.inr ⟨rfl, hd⟩))) hk
  | 7, hq, hk =>
    have hk := hk rfl
    show mmKS sh tg B b g aC p l e R s m args below meth c H0 D cl nL n0 z0 Qm pc (oCv a.toNat k)
    simp only [mmCand] at hq
    generalize hn : a.toNat = n at hq ⊢
    match n, hq with
    | 0, hq =>
      obtain rfl := List.mem_singleton.mp hq
      exact ks_cv hx hb (Or.inl ⟨rfl, hd⟩) hk
    | 1, hq =>
      obtain rfl := List.mem_singleton.mp hq
      exact ks_cv hx hb (Or.inr ⟨rfl, hd⟩) hk
    | n + 2, hq => cases hq
  | 8, hq, hk =>
    obtain rfl := List.mem_singleton.mp hq
    exact ks_lcmp hx hb hd (hk rfl)
  | 9, hq, hk =>
    have hk := hk rfl
    show mmKS sh tg B b g aC p l e R s m args below meth c H0 D cl nL n0 z0 Qm pc (oStk a.toNat k)
    simp only [mmCand] at hq
    obtain ⟨q1, rfl⟩ := mmB1_in hq
    have q2 := mm_blt q1
    generalize hn : a.toNat = n at q2 hd hk ⊢
    match n, q2, hd, hk with
    | 0, _, hd, hk => exact ks_stk hx hb (Or.inl ⟨rfl, hd⟩) hk
    | 1, _, hd, hk => exact ks_stk hx hb (Or.inr (Or.inl ⟨rfl, hd⟩)) hk
    | 2, _, hd, hk => exact ks_stk hx hb (Or.inr (Or.inr ⟨rfl, hd⟩)) hk
  | 10, hq, hk =>
    obtain ⟨q1, rfl⟩ := mmB1_in hq
    obtain ⟨C, T, N, f1, f2, f3, f4, f5, f6⟩ := F3 _ _ _ _ (of_decide_eq_true q1)
    obtain ⟨e1, e2, e3, e4, e5⟩ := F2 _ _ _ _ f1
    exact ks_get hx hb hts (fun w hw => hTW w (e2 w hw)) hown hKx f1 f2 e3 F12 f3 (tw _ f4) hd (hk rfl)
  | 11, hq, hk =>
    obtain ⟨q1, rfl⟩ := mmB1_in hq
    simp only [Bool.and_eq_true, decide_eq_true_eq, Bool.or_eq_true, Bool.not_eq_true'] at q1
    obtain ⟨q1, q2⟩ := q1
    obtain ⟨C, T, N, f1, f2, f3, f4, f5, f6⟩ := F3 _ _ _ _ q1
    obtain ⟨e1, e2, e3, ⟨ty, e4, e4'⟩, e5⟩ := F2 _ _ _ _ f1
    refine ks_put hx hb hts (fun w hw => hTW w (e2 w hw)) ty e4 e5 hown hKx f1 f2 e3 F12 f3 (e4' _ f3).1 (e4' _ f3).2 (tw _ f4) (fun z => ?_) hd (hk rfl)
    rw [f5] at z
    rcases q2 with q2 | q2
    · rw [q2] at z; cases z
    · refine ⟨hnm.trans (hinit q2.1), ?_⟩
      rw [f6, mm_beq q2.2, e1]
  | 12, hq, hk =>
    have hk := hk rfl
    show mmKS sh tg B b g aC p l e R s m args below meth c H0 D cl nL n0 z0 Qm pc (oAld sh (fun _ _ => none) a.toNat k)
    simp only [mmCand] at hq
    obtain ⟨q1, rfl⟩ := mmB1_in hq
    have q2 := mm_blt q1
    generalize hn : a.toNat = n at q2 hd hk ⊢
    match n, q2, hd, hk with
    | 0, _, hd, hk => exact ks_ald hx hb hKx F12 (htys 0 (by omega)) (Or.inl ⟨rfl, hd⟩) hk
    | 1, _, hd, hk => exact ks_ald hx hb hKx F12 (htys 1 (by omega)) (Or.inr (Or.inl ⟨rfl, hd⟩)) hk
    | 2, _, hd, hk => exact ks_ald hx hb hKx F12 (htys 2 (by omega)) (Or.inr (Or.inr (Or.inl ⟨rfl, hd⟩))) hk
    | 3, _, hd, hk => exact ks_ald hx hb hKx F12 (htys 3 (by omega)) (Or.inr (Or.inr (Or.inr (Or.inl ⟨rfl, hd⟩)))) hk
    | 4, _, hd, hk => exact ks_ald hx hb hKx F12 (htys 4 (by omega)) (Or.inr (Or.inr (Or.inr (Or.inr (Or.inl ⟨rfl, hd⟩))))) hk
    | 5, _, hd, hk => exact ks_ald hx hb hKx F12 (htys 5 (by omega)) (Or.inr (Or.inr (Or.inr (Or.inr (Or.inr ⟨rfl, hd⟩))))) hk
  | 13, hq, hk =>
    have hk := hk rfl
    show mmKS sh tg B b g aC p l e R s m args below meth c H0 D cl nL n0 z0 Qm pc (oAst sh (fun _ _ => none) wn a.toNat k)
    simp only [mmCand] at hq
    obtain ⟨q1, rfl⟩ := mmB1_in hq
    simp only [Bool.and_eq_true] at q1
    have q2 := mm_blt q1.1
    have q3 := q1.2
    obtain ⟨rT, rN, hr4⟩ := F13
    obtain ⟨-, -, hsh4, -⟩ := F2 _ _ _ _ hr4
    generalize hn : a.toNat = n at q2 q3 hd hk ⊢
    match n, q2, q3, hd, hk with
    | 0, _, _, hd, hk => exact ks_ast hx hb hKx F12 (htys 0 (by omega)) hr4 hsh4 (Or.inl ⟨rfl, hd⟩) hk
    | 1, _, _, hd, hk => exact ks_ast hx hb hKx F12 (htys 1 (by omega)) hr4 hsh4 (Or.inr (Or.inl ⟨rfl, hd⟩)) hk
    | 2, _, _, hd, hk => exact ks_ast hx hb hKx F12 (htys 2 (by omega)) hr4 hsh4 (Or.inr (Or.inr (Or.inl ⟨rfl, hd⟩))) hk
    | 3, _, _, hd, hk => exact ks_ast hx hb hKx F12 (htys 3 (by omega)) hr4 hsh4 (Or.inr (Or.inr (Or.inr (Or.inl ⟨rfl, hd⟩)))) hk
    | 4, _, q3, _, _ => cases q3
    | 5, _, _, hd, hk => exact ks_ast hx hb hKx F12 (htys 5 (by omega)) hr4 hsh4 (Or.inr (Or.inr (Or.inr (Or.inr ⟨rfl, hd⟩)))) hk
  | 14, hq, hk =>
    obtain rfl := List.mem_singleton.mp hq
    exact ks_len hx hb hKx F12 (fun x hx => ⟨_, htys _ (by have := hsh6 x; omega)⟩) hd (hk rfl)
  | 15, hq, hk =>
    have hk := hk rfl
    show mmKS sh tg B b g aC p l e R s m args below meth c H0 D cl nL n0 z0 Qm pc (oIf X a.toNat (li.headD 0).toNat k)
    simp only [mmCand] at hq
    obtain ⟨q1, rfl⟩ := mmB1_in hq
    have q2 := mm_blt q1
    have ht : (pc : Int) + (((pcs.getD (li.headD 0).toNat 0 : Nat) : Int) - (pc : Int)) = ((pcs.getD (li.headD 0).toNat 0 : Nat) : Int) := by omega
    generalize hn : a.toNat = n at q2 hd hk ⊢
    match n, q2, hd, hk with
    | 0, _, hd, hk => exact ks_if hx hb ht (Or.inl ⟨rfl, hd⟩) hk (hX _)
    | 1, _, hd, hk => exact ks_if hx hb ht (Or.inr (Or.inl ⟨rfl, hd⟩)) hk (hX _)
    | 2, _, hd, hk => exact ks_if hx hb ht (Or.inr (Or.inr (Or.inl ⟨rfl, hd⟩))) hk (hX _)
    | 3, _, hd, hk => exact ks_if hx hb ht (Or.inr (Or.inr (Or.inr (Or.inl ⟨rfl, hd⟩)))) hk (hX _)
    | 4, _, hd, hk => exact ks_if hx hb ht (Or.inr (Or.inr (Or.inr (Or.inr (Or.inl ⟨rfl, hd⟩))))) hk (hX _)
    | 5, _, hd, hk => exact ks_if hx hb ht (Or.inr (Or.inr (Or.inr (Or.inr (Or.inr ⟨rfl, hd⟩))))) hk (hX _)
  | 16, hq, hk =>
    have hk := hk rfl
    show mmKS sh tg B b g aC p l e R s m args below meth c H0 D cl nL n0 z0 Qm pc (oIcmp X a.toNat (li.headD 0).toNat k)
    simp only [mmCand] at hq
    obtain ⟨q1, rfl⟩ := mmB1_in hq
    have q2 := mm_blt q1
    have ht : (pc : Int) + (((pcs.getD (li.headD 0).toNat 0 : Nat) : Int) - (pc : Int)) = ((pcs.getD (li.headD 0).toNat 0 : Nat) : Int) := by omega
    generalize hn : a.toNat = n at q2 hd hk ⊢
    match n, q2, hd, hk with
    | 0, _, hd, hk => exact ks_icmp hx hb ht (Or.inl ⟨rfl, hd⟩) hk (hX _)
    | 1, _, hd, hk => exact ks_icmp hx hb ht (Or.inr (Or.inl ⟨rfl, hd⟩)) hk (hX _)
    | 2, _, hd, hk => exact ks_icmp hx hb ht (Or.inr (Or.inr (Or.inl ⟨rfl, hd⟩))) hk (hX _)
    | 3, _, hd, hk => exact ks_icmp hx hb ht (Or.inr (Or.inr (Or.inr (Or.inl ⟨rfl, hd⟩)))) hk (hX _)
    | 4, _, hd, hk => exact ks_icmp hx hb ht (Or.inr (Or.inr (Or.inr (Or.inr (Or.inl ⟨rfl, hd⟩))))) hk (hX _)
    | 5, _, hd, hk => exact ks_icmp hx hb ht (Or.inr (Or.inr (Or.inr (Or.inr (Or.inr ⟨rfl, hd⟩))))) hk (hX _)
  | 17, hq, hk =>
    obtain rfl := List.mem_singleton.mp hq
    have ht : (pc : Int) + (((pcs.getD a.toNat 0 : Nat) : Int) - (pc : Int)) = ((pcs.getD a.toNat 0 : Nat) : Int) := by omega
    exact ks_goto hx hb ht hd (hX a.toNat)
  | 18, hq, hk => cases hq
  | 19, hq, hk => cases hq
  | 20, hq, hk =>
    obtain ⟨q1, rfl⟩ := mmB1_in hq
    simp only [Bool.and_eq_true] at q1
    have q2 := mm_beq q1.1
    have q3 := mm_blt q1.2
    show mmKS sh tg B b g aC p l e R s m args below meth c H0 D cl nL n0 z0 Qm pc (oRet Q a.toNat)
    rw [q2] at hd q3 ⊢
    refine hret pc ?_
    match rt, q3, hd with
    | 0, _, hd => exact Or.inl ⟨rfl, hd⟩
    | 1, _, hd => exact Or.inr (Or.inl ⟨rfl, hd⟩)
    | 2, _, hd => exact Or.inr (Or.inr (Or.inl ⟨rfl, hd⟩))
    | 3, _, hd => exact Or.inr (Or.inr (Or.inr (Or.inl ⟨rfl, hd⟩)))
    | 4, _, hd => exact Or.inr (Or.inr (Or.inr (Or.inr ⟨rfl, hd⟩)))
  | 21, hq, hk =>
    have hk := hk rfl
    show mmKS sh tg B b g aC p l e R s m args below meth c H0 D cl nL n0 z0 Qm pc (oCall sh mp K n0 z0 mc ms a.toNat k)
    simp only [mmCand] at hq
    generalize (li.getD 1 0).toNat = y at hq
    generalize a.toNat = mi at hq ⊢
    obtain ⟨r1, r2, r3, r4⟩ := hroom mi
    have callB : ∀ kd idx, (ow, idx, mi, kd) ∈ tb.2.1 → ∀ n, (parseMethodDescriptor (yM mi).desc).map (fun d => d.parameters.length) = some n → CallB R s args (onm ow) idx (yM mi) (bM mi) (lM mi) (rM mi) (.code (yM mi) (bM mi) (lM mi) (rM mi) :: TW) (rmM mi) (mp mi).2.2.2.1 (mp mi).2.2.2.2.1 n := by
      intro kd idx hin n hn
      obtain ⟨g1, g2, g3, g4, -, -⟩ := F4 _ _ _ _ hin
      exact callB_of n hts (mm_good F1 hTW g2) rfl r1 r2 (tw _ g3) (tw _ g1) ⟨g4.1, g4.2, hn⟩ ⟨r3, r4⟩
    generalize hxn : (li.headD 0).toNat = xn at hq
    match xn, hq with
    | 0, hq =>
      obtain ⟨q1, rfl⟩ := mmB1_in hq
      have q1 := of_decide_eq_true q1
      have hcb := callB _ _ q1
      obtain ⟨g1, g2, g3, g4, g5, g6⟩ := F4 _ _ _ _ q1
      rcases g6 with ⟨g6, -⟩ | ⟨-, g7, ⟨T, N, g8⟩, ⟨ts, g9, g10⟩, g11, g12, -⟩
      · cases g6
      · refine ks_call hx hb hml hown hts hKA F12 hmc hms (hKs mi) g5 (Or.inl ⟨_, T, N, ts.length, g7, g8, (F2 _ _ _ _ g8).2.2.1, ⟨ts, g9, rfl⟩, Or.inl ⟨hd, hcb _ g10, tw _ g11, tw _ (g12 rfl)⟩⟩) hk
    | 1, hq =>
      obtain ⟨q1, rfl⟩ := mmB1_in hq
      have q1 := of_decide_eq_true q1
      have hcb := callB _ _ q1
      obtain ⟨g1, g2, g3, g4, g5, g6⟩ := F4 _ _ _ _ q1
      rcases g6 with ⟨-, g7, g8, g9⟩ | ⟨g6, -⟩
      · refine ks_call hx hb hml hown hts hKA F12 hmc hms (hKs mi) g5 (Or.inr ⟨g7, hd, hcb _ g9, tw _ g8⟩) hk
      · rcases g6 with g6 | g6 <;> cases g6
    | 2, hq =>
      obtain ⟨q1, rfl⟩ := mmB1_in hq
      have q1 := of_decide_eq_true q1
      have hcb := callB _ _ q1
      obtain ⟨g1, g2, g3, g4, g5, g6⟩ := F4 _ _ _ _ q1
      rcases g6 with ⟨g6, -⟩ | ⟨-, g7, ⟨T, N, g8⟩, ⟨ts, g9, g10⟩, g11, -, g12⟩
      · cases g6
      · have hr := (g12 rfl).2
        have hcb := hcb _ g10
        have hKs := hKs mi
        rw [hr] at hcb hKs
        exact ks_call hx hb hml hown hts hKA F12 hmc hms hKs g5 (Or.inl ⟨_, T, N, ts.length, g7, g8, (F2 _ _ _ _ g8).2.2.1, ⟨ts, g9, rfl⟩, Or.inr ⟨hd, rfl, hcb, (g12 rfl).1, tw _ g11⟩⟩) hk
    | n + 3, hq => cases hq
  | 22, hq, hk =>
    obtain ⟨q1, rfl⟩ := mmB1_in hq
    obtain ⟨C, T, N, f1, f2, f3, f4, f5⟩ := F7 _ _ _ (of_decide_eq_true q1)
    obtain ⟨e1, e2, e3, ⟨ty, e4, e4'⟩, e5⟩ := F2 _ _ _ _ f1
    exact ks_new hx hb hmc hms hts (fun w hw => hTW w (e2 w hw)) ty e4 hown hKx f1 f2 e3 e4' (tw _ f3) (tw _ f4) (tw _ f5) hd (hk rfl)
  | 23, hq, hk =>
    have hk := hk rfl
    show mmKS sh tg B b g aC p l e R s m args below meth c H0 D cl nL n0 z0 Qm pc (oNewA sh n0 z0 mc ms a.toNat k)
    simp only [mmCand] at hq
    generalize a.toNat = n at hq ⊢
    have h4 : ∀ n : Nat, q ∈ mmB1 (Nat.blt n 4) (Instr.newarray (mmAty n), 2) → mmKS sh tg B b g aC p l e R s m args below meth c H0 D cl nL n0 z0 Qm pc (oNewA sh n0 z0 mc ms n k) := by
      intro n hq
      obtain ⟨q1, rfl⟩ := mmB1_in hq
      have q2 := mm_blt q1
      exact ks_newA hx hb hmc hms hKx (htys n (by omega)) q2 (mm_ty n q2) (by rw [mm_ty n q2]; exact tw _ (F11 n q2)) hd hk
    match n, hq with
    | 5, hq =>
      obtain ⟨q1, rfl⟩ := mmB1_in hq
      have f1 := F10 _ _ (of_decide_eq_true q1)
      exact ks_newQ hx hb hmc hms hown hKx (htys 5 (by omega)) (tw _ f1) hKA.2.1 hd hk
    | 0, hq => exact h4 0 hq
    | 1, hq => exact h4 1 hq
    | 2, hq => exact h4 2 hq
    | 3, hq => exact h4 3 hq
    | 4, hq => exact h4 4 hq
    | n + 6, hq => exact h4 _ hq
  | 24, hq, hk =>
    obtain ⟨q1, rfl⟩ := mmB1_in hq
    exact hgrid _ _ _ (of_decide_eq_true q1) hd (hk rfl)
  | 25, hq, hk =>
    obtain ⟨q1, rfl⟩ := mmB1_in hq
    obtain ⟨f1, f2, f3, f4⟩ := F9 _ _ (of_decide_eq_true q1)
    exact ks_cpy hx hb hml hown (tw _ f1) (tw _ f2) (tw _ f3) (tw _ f4) hKx F12 (htys 0 (by omega)) ⟨hR1, hR2⟩ hd (hk rfl)
  | 26, hq, hk =>
    obtain ⟨q1, rfl⟩ := mmB1_in hq
    obtain ⟨f1, f2, f3⟩ := F8 _ _ (of_decide_eq_true q1)
    exact ks_obj hx hb hml hown (tw _ f1) (tw _ f2) (tw _ f3) ⟨hR1, hR3⟩ hd (hk rfl)
  | 27, hq, hk =>
    obtain ⟨q1, rfl⟩ := mmB1_in hq
    obtain ⟨Ln, xs', s1, s2, s3, s4, s5, s6⟩ := hsc q1
    exact ks_sld hx hb s1 s2 s3 s4 s5 s6 hd (hk rfl)
  | 28, hq, hk =>
    obtain ⟨q1, rfl⟩ := mmB1_in hq
    obtain ⟨Ln, xs', s1, s2, s3, s4, s5, s6⟩ := hsc q1
    exact ks_slen hx hb s1 s2 s3 s4 s5 hd (hk rfl)
  | 29, hq, hk =>
    obtain ⟨q1, rfl⟩ := mmB1_in hq
    exact (htext _ _ _).2.1 (of_decide_eq_true q1) hd (hk rfl)
  | 30, hq, hk =>
    obtain ⟨q1, rfl⟩ := mmB1_in hq
    exact (htext _ _ _).2.2.1 (of_decide_eq_true q1) hd (hk rfl)
  | 31, hq, hk =>
    obtain ⟨q1, rfl⟩ := mmB1_in hq
    simp only [Bool.and_eq_true, decide_eq_true_eq] at q1
    exact (htext _ _ _).2.2.2 _ (mm_blt q1.1) q1.2 hd (hk rfl)
  | n + 32, hq, hk => cases hq
end MS1
end
section
/-! ===== mm: blocks, methods ===== -/
section MB0
variable {pc : Nat} {pcs : List Nat}
theorem mmLck_at {off : Int → Int} : ∀ (ps : List (Int × Int)) (ts : List Int), mmLck off ps ts = true → ts.length = 2 * ps.length ∧ ∀ (j : Nat) (q : Int × Int), ps[j]? = some q → ts[2 * j]? = some q.1 ∧ ∃ t, ts[2 * j + 1]? = some t ∧ off t = q.2
  | [], [], _ => ⟨rfl, fun j q h => by simp at h⟩
  | [], _ :: _, h => by simp [mmLck] at h
  | q :: ps, [], h => by simp [mmLck] at h
  | q :: ps, [_], h => by simp [mmLck] at h
  | q :: ps, k :: t :: r, h => by
    simp only [mmLck, Bool.and_eq_true, decide_eq_true_eq] at h
    obtain ⟨h1, h2, h3⟩ := h
    obtain ⟨i1, i2⟩ := mmLck_at ps r h3
    refine ⟨by simp [i1]; omega, fun j z hz => ?_⟩
    cases j with
    | zero =>
      simp at hz
      subst hz
      exact ⟨by simp [h1], t, by simp, h2⟩
    | succ j =>
      rw [List.getElem?_cons_succ] at hz
      obtain ⟨a1, t', a2, a3⟩ := i2 j z hz
      have e1 : 2 * (j + 1) = 2 * j + 1 + 1 := by omega
      have e2 : 2 * (j + 1) + 1 = 2 * j + 1 + 1 + 1 := by omega
      refine ⟨by rw [e1, List.getElem?_cons_succ, List.getElem?_cons_succ]; exact a1, t', by rw [e2, List.getElem?_cons_succ, List.getElem?_cons_succ]; exact a2, a3⟩
end MB0
section MB1
variable {sh : Int → Nat × Nat} {tg : Nat → Nat → Nat} {B b g : Nat} {aC : Nat → ClassId} {p : Program} {l : Launch} {e : Env} {R : Room} {s : State} {m : MethodId} {args : Array Value} {below : List Frame} {meth : Method} {c : Code} {H0 : Heap} {D : va_G} {cl : List vw_C} {nL n0 z0 : Nat} {Qm : State → Prop}
variable {cc : ByteArray} {tys : List (ClassId × FieldType)} {wn : Int → Bool} {tb : mmT} {fin : Nat → Nat → Bool} {onm : Nat → String} {mp : Nat → mmM} {yM : Nat → MethodName} {bM : Nat → ByteArray} {lM : Nat → Nat} {rM : Nat → Option FieldType} {TW Ts : List Cond}
variable {K : Nat → List Int → mmH → (Int → mmH → Prop) → Prop} {Q : Int → mmH → Prop} {X : Nat → mmKont} {mc ms L : Int} {xs : Int → Int} {tx : List Int}
theorem ks_sw {pc : Nat} {pcs : List Nat} {op : mmOp} {i : Instr} {len : Nat} {k : mmKont} (hx : p.tables.exec = Jvm.exec) (hb : c.code = cc) (hX : ∀ bl : Nat, mmKS sh tg B b g aC p l e R s m args below meth c H0 D cl nL n0 z0 Qm (pcs.getD bl 0) (X bl)) (hd : decode cc pc = .ok (i, len)) (hq : mmSw pcs pc op i = true) :
    mmKS sh tg B b g aC p l e R s m args below meth c H0 D cl nL n0 z0 Qm pc (mmStep sh tg (fun _ _ => none) wn mp K Q X n0 z0 mc ms L xs tx op.1 op.2.1 op.2.2 k) := by
  obtain ⟨o, a, li⟩ := op
  unfold mmSw at hq
  simp only [] at hq
  split at hq
  · next _ _ d ts dd lo hi offs =>
    simp only [Bool.and_eq_true, decide_eq_true_eq] at hq
    obtain ⟨q1, q2, q3, q4⟩ := hq
    have q2' : lo = a := q2
    have q3' : hi = a + (ts.length : Int) - 1 := q3
    have q5 : lo + (ts.length : Int) = hi + 1 := by rw [q2', q3']; omega
    subst q2'
    refine ks_tsw (pcs := fun bl => pcs.getD bl 0) hx hb hd q5 (by rw [q1]; omega) (fun j t hj => ?_) hX
    refine ⟨((pcs.getD t.toNat 0 : Nat) : Int) - (pc : Int), ?_, by omega⟩
    rw [q4]
    simp [hj]
  · next _ _ d ts dd ps =>
    simp only [Bool.and_eq_true, decide_eq_true_eq] at hq
    obtain ⟨q1, q2, q3⟩ := hq
    obtain ⟨l1, l2⟩ := mmLck_at _ _ q3
    refine ks_lsw (pcs := fun bl => pcs.getD bl 0) hx hb hd q2 (by rw [q1]; omega) l1 (fun j q hj => ?_) hX
    obtain ⟨a1, t, a2, a3⟩ := l2 j q hj
    exact ⟨a1, t, a2, by rw [← a3]; omega⟩
  · cases hq
theorem ks_blk {ow rt : Nat} {isInit sc : Bool} {nm : String} {pcs : List Nat} {rmM : Nat → Room} (hF : mmFT sh tg tb fin onm cl mp yM bM lM rM TW) (hC : mmCx nm sc ow rt aC p l R s m args meth c D cl nL B b cc tys onm TW Ts mc ms L xs H0 sh) (hinit : isInit = true → nm = "<init>")
    (hKs : ∀ mi as h Qc, K mi as h Qc → mmMet sh tg B b g aC D cl tys l (yM mi) (.code (yM mi) (bM mi) (lM mi) (rM mi) :: TW) (rmM mi) (mp mi).1.reverse (mp mi).2.1 (mp mi).2.2.2.1 (mp mi).2.2.2.2.1 as h Qc)
    (hroom : ∀ mi, (rmM mi).cells = (mp mi).2.2.2.1 ∧ (rmM mi).slots = (mp mi).2.2.2.2.1 ∧ (rmM mi).frames + 1 ≤ R.frames ∧ 8 + (lM mi + 11) + (rmM mi).locals ≤ R.locals)
    (hret : ∀ (pc' : Nat), (rt = 0 ∧ decode cc pc' = .ok (.return_, 1)) ∨ (rt = 1 ∧ decode cc pc' = .ok (.ireturn, 1)) ∨ (rt = 2 ∧ decode cc pc' = .ok (.lreturn, 1)) ∨ (rt = 3 ∧ decode cc pc' = .ok (.areturn, 1)) ∨ (rt = 4 ∧ decode cc pc' = .ok (.ireturn, 1)) → mmKS sh tg B b g aC p l e R s m args below meth c H0 D cl nL n0 z0 Qm pc' (oRet Q rt))
    (htext : ∀ (pc' idx : Nat) (k' : mmKont), ((ow, idx) ∈ tb.2.2.2.2.2.2.2.2.2 → decode cc pc' = .ok (.ldc idx, 2) → mmKS sh tg B b g aC p l e R s m args below meth c H0 D cl nL n0 z0 Qm (pc' + 2) k' → mmKS sh tg B b g aC p l e R s m args below meth c H0 D cl nL n0 z0 Qm pc' (oPush 5 0 k')) ∧ ((ow, 100000 + idx) ∈ tb.2.2.2.2.2.2.2.2.2 → decode cc pc' = .ok (.invokevirtual idx, 3) → mmKS sh tg B b g aC p l e R s m args below meth c H0 D cl nL n0 z0 Qm (pc' + 3) k' → mmKS sh tg B b g aC p l e R s m args below meth c H0 D cl nL n0 z0 Qm pc' (oTlen tx k')) ∧ ((ow, 200000 + idx) ∈ tb.2.2.2.2.2.2.2.2.2 → decode cc pc' = .ok (.invokevirtual idx, 3) → mmKS sh tg B b g aC p l e R s m args below meth c H0 D cl nL n0 z0 Qm (pc' + 3) k' → mmKS sh tg B b g aC p l e R s m args below meth c H0 D cl nL n0 z0 Qm pc' (oTat tx k')) ∧ ∀ f : Nat, f < 5 → (ow, 300000 + 10000 * f + idx) ∈ tb.2.2.2.2.2.2.2.2.2 → decode cc pc' = .ok (.invokestatic idx, 3) → mmKS sh tg B b g aC p l e R s m args below meth c H0 D cl nL n0 z0 Qm (pc' + 3) k' → mmKS sh tg B b g aC p l e R s m args below meth c H0 D cl nL n0 z0 Qm pc' (oMath f k'))
    (hgrid : ∀ (pc' idx : Nat) (k' : mmKont), (ow, idx) ∈ tb.2.2.2.2.2.2.2.2.1 → decode cc pc' = .ok (.multianewarray idx 2, 4) → mmKS sh tg B b g aC p l e R s m args below meth c H0 D cl nL n0 z0 Qm (pc' + 4) k' → mmKS sh tg B b g aC p l e R s m args below meth c H0 D cl nL n0 z0 Qm pc' (oNewM sh n0 z0 mc ms k'))
    (hX : ∀ bl : Nat, mmKS sh tg B b g aC p l e R s m args below meth c H0 D cl nL n0 z0 Qm (pcs.getD bl 0) (X bl)) : ∀ (ops : List mmOp) (pc : Nat), mmChkB tb fin ow isInit sc rt cc pcs pc ops = true → mmKS sh tg B b g aC p l e R s m args below meth c H0 D cl nL n0 z0 Qm pc (mmEx sh tg (fun _ _ => none) wn mp K Q X n0 z0 mc ms L xs tx ops)
  | [], pc, h => by simp [mmChkB] at h
  | op :: ops, pc, h => by
    unfold mmChkB at h
    rw [Bool.or_eq_true] at h
    show mmKS sh tg B b g aC p l e R s m args below meth c H0 D cl nL n0 z0 Qm pc (mmStep sh tg (fun _ _ => none) wn mp K Q X n0 z0 mc ms L xs tx op.1 op.2.1 op.2.2 (mmEx sh tg (fun _ _ => none) wn mp K Q X n0 z0 mc ms L xs tx ops))
    rcases h with h | h
    · simp only [Bool.and_eq_true, decide_eq_true_eq] at h
      obtain ⟨h1, h2, h3⟩ := h
      have e : op.1 = 17 := mm_beq h1
      rw [e]
      have := hX op.2.1.toNat
      rw [List.getD_eq_getElem?_getD, h3] at this
      exact this
    · cases hd : decode cc pc with
      | error q => rw [hd] at h; simp at h
      | ok q =>
        rw [hd] at h
        simp only [Bool.or_eq_true, Bool.and_eq_true] at h
        rcases h with ⟨h1, h2⟩ | h
        · obtain ⟨z, hz1, hz2⟩ := List.any_eq_true.mp h1
          have hz := of_decide_eq_true hz2
          rw [← hz] at hz1
          refine ks_op hF hC hinit hKs hroom hret htext hgrid hX hd hz1 (fun he => ?_)
          rcases h2 with h2 | h2
          · rw [h2] at he; cases he
          · exact ks_blk hF hC hinit hKs hroom hret htext hgrid hX ops _ h2
        · exact ks_sw hC.1 hC.2.1 hX hd h
end MB1
section MB2
variable (sh : Int → Nat × Nat) (tg : Nat → Nat → Nat) (fc : Int → Int → Option Int) (wn : Nat → Int → Bool) (mp : Nat → mmM)
-- a method's blocks, how many locals it has
variable (bl : Nat → List (List mmOp)) (nl : Nat → Nat) (tx : List Int)
def mmIl : List Nat → List Int → Nat → List mmV
  | t :: ts, x :: as, n => (t, x) :: (bif Nat.beq t 2 then (0, 0) :: mmIl ts as (n - 2) else mmIl ts as (n - 1))
  | _, _, n => List.replicate n (0, 0)
/-- what holds at a block's start: whatever is closed under the blocks -/
def mmWb (K : Nat → List Int → mmH → (Int → mmH → Prop) → Prop) (Q : Int → mmH → Prop) (w : Int → Bool) (blks : List (List mmOp)) (n0 z0 mc ms L : Int) (xs : Int → Int) (i : Nat) : mmKont := fun ls st h =>
  ∀ X : Nat → mmKont, (∀ i ls st h, mmEx sh tg fc w mp K Q X n0 z0 mc ms L xs tx (blks.getD i []) ls st h → X i ls st h) → X i ls st h
/-- a method, by the depth of calls that are left -/
def mmC : Nat → Nat → List Int → mmH → (Int → mmH → Prop) → Prop
  | 0, _, _, _, _ => False
  | d + 1, mi, as, h, Q => mmWb sh tg fc mp tx (mmC d) (fun x h' => mmGrow (mp mi).2.2.2.1 (mp mi).2.2.2.2.1 h h' ∧ Q x h') (wn (mp mi).2.2.2.2.2) (bl mi) (h 0 0) (h 0 1) ((mp mi).2.2.2.1 : Int) ((mp mi).2.2.2.2.1 : Int) 0 (fun _ => 0) 0 (mmIl (mp mi).1.reverse as (nl mi)) [] h
end MB2
section MB3
variable (sh : Int → Nat × Nat) (tg : Nat → Nat → Nat) (B b g : Nat) (aC : Nat → ClassId)
theorem mmVal_c2 {t : Nat} {x : Int} : (mmVal B b g (t, x)).category = 2 ↔ t = 2 := by
  rw [mmVal_cat]
  by_cases e : t = 2 <;> simp [e]
theorem mmIl_len : ∀ (ts : List Nat) (as : List Int) (n : Nat), (lg_sl (mmAv B b g ts as)).length ≤ n → (mmIl ts as n).length = n
  | [], _, n, _ => by simp [mmIl]
  | _ :: _, [], n, _ => by simp [mmIl]
  | t :: ts, x :: as, n, h => by
    have e : lg_sl (mmAv B b g (t :: ts) (x :: as)) = (if (mmVal B b g (t, x)).category = 2 then [.val (mmVal B b g (t, x)), .second] else [.val (mmVal B b g (t, x))]) ++ lg_sl (mmAv B b g ts as) := rfl
    rw [e, List.length_append] at h
    unfold mmIl
    cases e2 : Nat.beq t 2 with
    | true =>
      rw [if_pos ((mmVal_c2 B b g).mpr (mm_beq e2))] at h
      simp at h
      have := mmIl_len ts as (n - 2) (by omega)
      simp [this]
      omega
    | false =>
      rw [if_neg (fun q => by rw [(mmVal_c2 B b g).mp q] at e2; cases e2)] at h
      simp at h
      have := mmIl_len ts as (n - 1) (by omega)
      simp [this]
      omega
theorem mmIl_at : ∀ (ts : List Nat) (as : List Int) (n k i : Nat), ((mmIl ts as n).getD i (0, 0)).1 ≠ 0 → (k + i, mmVal B b g ((mmIl ts as n).getD i (0, 0))) ∈ lv_args k (mmAv B b g ts as)
  | [], as, n, k, i, h => by
    exfalso; apply h
    unfold mmIl
    rw [List.getD_eq_getElem?_getD, List.getElem?_replicate]
    split <;> rfl
  | t :: ts, [], n, k, i, h => by
    exfalso; apply h
    unfold mmIl
    rw [List.getD_eq_getElem?_getD, List.getElem?_replicate]
    split <;> rfl
  | t :: ts, x :: as, n, k, i, h => by
    have e : lv_args k (mmAv B b g (t :: ts) (x :: as)) = (k, mmVal B b g (t, x)) :: lv_args (if (mmVal B b g (t, x)).category = 2 then k + 2 else k + 1) (mmAv B b g ts as) := rfl
    rw [e]
    unfold mmIl at h ⊢
    cases i with
    | zero => exact List.mem_cons_self
    | succ i =>
      refine List.mem_cons_of_mem _ ?_
      cases e2 : Nat.beq t 2 with
      | true =>
        rw [e2] at h
        rw [if_pos ((mmVal_c2 B b g).mpr (mm_beq e2))]
        simp only [cond_true, List.getD_cons_succ] at h ⊢
        cases i with
        | zero => exact absurd rfl h
        | succ i =>
          rw [List.getD_cons_succ] at h ⊢
          have := mmIl_at ts as (n - 2) (k + 2) i h
          rw [show k + (i + 1 + 1) = k + 2 + i by omega]
          exact this
      | false =>
        rw [e2] at h
        rw [if_neg (fun q => by rw [(mmVal_c2 B b g).mp q] at e2; cases e2)]
        simp only [cond_false, List.getD_cons_succ] at h ⊢
        have := mmIl_at ts as (n - 1) (k + 1) i h
        rw [show k + (i + 1) = k + 1 + i by omega]
        exact this
theorem mmIl_ok {n : Int} : ∀ (ts : List Nat) (as : List Int) (k : Nat), (∀ q ∈ List.zip ts as, mmOk n q) → ∀ v ∈ mmIl ts as k, mmOk n v
  | [], as, k, h, v, hv => by
    unfold mmIl at hv
    rw [(List.mem_replicate.mp hv).2]
    trivial
  | t :: ts, [], k, h, v, hv => by
    unfold mmIl at hv
    rw [(List.mem_replicate.mp hv).2]
    trivial
  | t :: ts, x :: as, k, h, v, hv => by
    rw [List.zip_cons_cons] at h
    unfold mmIl at hv
    rcases List.mem_cons.mp hv with q | q
    · rw [q]; exact h _ List.mem_cons_self
    · have h2 : ∀ q ∈ List.zip ts as, mmOk n q := fun z hz => h z (List.mem_cons_of_mem _ hz)
      cases e2 : Nat.beq t 2 with
      | true =>
        rw [e2] at q
        simp only [cond_true] at q
        rcases List.mem_cons.mp q with q | q
        · rw [q]; trivial
        · exact mmIl_ok ts as _ h2 v q
      | false =>
        rw [e2] at q
        exact mmIl_ok ts as _ h2 v q
end MB3
end
section
/-! ===== mm: what the small machine says of a method, the machine does ===== -/
/-- the methods: each one's own kind's number, whether it is a constructor, where its blocks start -/
def mmFM (tb : mmT) (fin : Nat → Nat → Bool) (onm : Nat → String) (mp : Nat → mmM) (yM : Nat → MethodName) (bM : Nat → ByteArray) (lM : Nat → Nat) (rM : Nat → Option FieldType) (TW : List Cond) (bl : Nat → List (List mmOp)) (oM : Nat → Nat × Bool) (pM : Nat → List Nat) : Prop :=
  ∀ mi, bl mi = [] ∨ (mmChk tb fin (oM mi).1 (oM mi).2 false (mp mi).2.1 (bM mi) (pM mi) (bl mi) = true ∧ plainName (yM mi).cls = true ∧ onm (oM mi).1 = (yM mi).cls ∧ ((oM mi).2 = true → (yM mi).name = "<init>") ∧
    ((mp mi).1.foldr (fun t n => (bif Nat.beq t 2 then 2 else 1) + n) 0 ≤ lM mi) ∧
    (((mp mi).2.1 = 0 ∧ rM mi = none) ∨ ((mp mi).2.1 = 1 ∧ rM mi = some .int) ∨ ((mp mi).2.1 = 2 ∧ rM mi = some .long) ∨ ((mp mi).2.1 = 3 ∧ ∃ ty, rM mi = some ty ∧ ((∃ n, ty = .object n) ∨ ∃ t, ty = .array t)) ∨ ((mp mi).2.1 = 4 ∧ rM mi = some .boolean)) ∧
    Cond.code (yM mi) (bM mi) (lM mi) (rM mi) ∈ TW)
def mmRm (mp : Nat → mmM) (d mi : Nat) : Room := { frames := d + 5, cells := (mp mi).2.2.2.1, slots := (mp mi).2.2.2.2.1, locals := 80 * d + 120 }
/-- what is wanted of the text constant's load, its length and characters, and of the library's max, min, floorDiv -/
def mmTextOk (sh : Int → Nat × Nat) (tg : Nat → Nat → Nat) (B b g : Nat) (aC : Nat → ClassId) (l : Launch) (D : va_G) (cl : List vw_C) (tb : mmT) (onm : Nat → String) (TW : List Cond) (tx : List Int) : Prop :=
  ∀ (p : Program) (e : Env) (R : Room) (s : State) (m : MethodId) (args : Array Value) (below : List Frame) (meth : Method) (c : Code) (nL n0 z0 : Nat) (Qm : State → Prop) (ow : Nat) (cc : ByteArray), p.tables.exec = Jvm.exec → c.code = cc → s.vm.findClass (onm ow) = some m.cls → (∀ w ∈ TW, w.before args s = true) → c.maxLocals = nL → 150 ≤ R.locals ∧ 3 ≤ R.frames →
      ∀ (pc' idx : Nat) (k' : mmKont), ((ow, idx) ∈ tb.2.2.2.2.2.2.2.2.2 → decode cc pc' = .ok (.ldc idx, 2) → mmKS sh tg B b g aC p l e R s m args below meth c s.heap D cl nL n0 z0 Qm (pc' + 2) k' → mmKS sh tg B b g aC p l e R s m args below meth c s.heap D cl nL n0 z0 Qm pc' (oPush 5 0 k')) ∧ ((ow, 100000 + idx) ∈ tb.2.2.2.2.2.2.2.2.2 → decode cc pc' = .ok (.invokevirtual idx, 3) → mmKS sh tg B b g aC p l e R s m args below meth c s.heap D cl nL n0 z0 Qm (pc' + 3) k' → mmKS sh tg B b g aC p l e R s m args below meth c s.heap D cl nL n0 z0 Qm pc' (oTlen tx k')) ∧ ((ow, 200000 + idx) ∈ tb.2.2.2.2.2.2.2.2.2 → decode cc pc' = .ok (.invokevirtual idx, 3) → mmKS sh tg B b g aC p l e R s m args below meth c s.heap D cl nL n0 z0 Qm (pc' + 3) k' → mmKS sh tg B b g aC p l e R s m args below meth c s.heap D cl nL n0 z0 Qm pc' (oTat tx k')) ∧ ∀ f : Nat, f < 5 → (ow, 300000 + 10000 * f + idx) ∈ tb.2.2.2.2.2.2.2.2.2 → decode cc pc' = .ok (.invokestatic idx, 3) → mmKS sh tg B b g aC p l e R s m args below meth c s.heap D cl nL n0 z0 Qm (pc' + 3) k' → mmKS sh tg B b g aC p l e R s m args below meth c s.heap D cl nL n0 z0 Qm pc' (oMath f k')
/-- what is wanted of new int[n][m] -/
def mmGridOk (sh : Int → Nat × Nat) (tg : Nat → Nat → Nat) (B b g : Nat) (aC : Nat → ClassId) (l : Launch) (D : va_G) (cl : List vw_C) (tys : List (ClassId × FieldType)) (tb : mmT) (onm : Nat → String) (TW : List Cond) : Prop :=
  ∀ (p : Program) (e : Env) (R : Room) (s : State) (m : MethodId) (args : Array Value) (below : List Frame) (meth : Method) (c : Code) (nL n0 z0 : Nat) (Qm : State → Prop) (ow : Nat) (cc : ByteArray), p.tables.exec = Jvm.exec → c.code = cc → s.vm.findClass (onm ow) = some m.cls → (∀ w ∈ TW, w.before args s = true) → mmKA D cl tys s →
      ∀ (pc' idx : Nat) (k' : mmKont), (ow, idx) ∈ tb.2.2.2.2.2.2.2.2.1 → decode cc pc' = .ok (.multianewarray idx 2, 4) → mmKS sh tg B b g aC p l e R s m args below meth c s.heap D cl nL n0 z0 Qm (pc' + 4) k' → mmKS sh tg B b g aC p l e R s m args below meth c s.heap D cl nL n0 z0 Qm pc' (oNewM sh n0 z0 (R.cells : Int) (R.slots : Int) k')
section MM1
variable {sh : Int → Nat × Nat} {tg : Nat → Nat → Nat} {B b g : Nat} {aC : Nat → ClassId} {l : Launch} {D : va_G} {cl : List vw_C} {tys : List (ClassId × FieldType)} {wn : Nat → Int → Bool} {tb : mmT} {fin : Nat → Nat → Bool} {onm : Nat → String} {mp : Nat → mmM} {yM : Nat → MethodName} {bM : Nat → ByteArray} {lM : Nat → Nat} {rM : Nat → Option FieldType} {TW : List Cond} {bl : Nat → List (List mmOp)} {oM : Nat → Nat × Bool} {pM : Nat → List Nat} {tx : List Int}
theorem mm_sum_rev (f : Nat → Nat) : ∀ (l : List Nat), (l.reverse.map f).sum = l.foldr (fun t n => f t + n) 0
  | [] => rfl
  | t :: l => by
    rw [List.reverse_cons, List.map_append, List.sum_append, mm_sum_rev f l]
    simp
    omega
theorem lg_len : ∀ (ts : List Nat) (as : List Int), (lg_sl (mmAv B b g ts as)).length ≤ (ts.map (fun t => bif Nat.beq t 2 then 2 else 1)).sum
  | [], as => by simp [mmAv, lg_sl]
  | t :: ts, [] => by simp [mmAv, lg_sl]
  | t :: ts, x :: as => by
    have e : lg_sl (mmAv B b g (t :: ts) (x :: as)) = (if (mmVal B b g (t, x)).category = 2 then [.val (mmVal B b g (t, x)), .second] else [.val (mmVal B b g (t, x))]) ++ lg_sl (mmAv B b g ts as) := rfl
    have ih := lg_len ts as
    rw [e, List.length_append, List.map_cons, List.sum_cons]
    cases e2 : Nat.beq t 2 with
    | true =>
      rw [if_pos ((mmVal_c2 B b g).mpr (mm_beq e2))]
      simp
      omega
    | false =>
      rw [if_neg (fun q => by rw [(mmVal_c2 B b g).mp q] at e2; cases e2)]
      simp
      omega
set_option maxHeartbeats 4000000 in
/-- THE THEOREM of the small machine; ht, hg: the text constant's load, new int[n][m] -/
theorem mm_sound (hF : mmFT sh tg tb fin onm cl mp yM bM lM rM TW) (hM : mmFM tb fin onm mp yM bM lM rM TW bl oM pM) (hcl7 : ∀ x, (sh x).1 < 106) (hl40 : ∀ mi, lM mi ≤ 40) (hnat : nativeFrameWords "java/lang/System" "arraycopy" 5 ≤ 90) (htys : ∀ kd, kd < 6 → tys[kd]? = some (aC kd, mmKt kd))
    (htext : mmTextOk sh tg B b g aC l D cl tb onm TW tx) (hgrid : mmGridOk sh tg B b g aC l D cl tys tb onm TW) :
    ∀ (d mi : Nat) (as : List Int) (h : mmH) (Q : Int → mmH → Prop), mmC sh tg (fun _ _ => none) wn mp bl lM tx d mi as h Q → mmMet sh tg B b g aC D cl tys l (yM mi) (.code (yM mi) (bM mi) (lM mi) (rM mi) :: TW) (mmRm mp d mi) (mp mi).1.reverse (mp mi).2.1 (mp mi).2.2.2.1 (mp mi).2.2.2.2.1 as h Q
  | 0, mi, as, h, Q, hc => hc.elim
  | d + 1, mi, as, h, Q, hc => by
    intro hlen hok
    have IH := mm_sound hF hM hcl7 hl40 hnat htys htext hgrid d
    rcases hM mi with hbl | ⟨hchk, hplain, hon, hini, hargs, hrt, hcode⟩
    · exfalso
      refine hc (fun _ _ _ _ => False) (fun i ls st h q => ?_)
      rw [hbl] at q
      exact q
    · refine Met.ofW (cc := bM mi) (maxL := lM mi) (ret := rM mi) hplain rfl ?_
      intro p e s m args below meth c s₁ BB hml hv
      obtain ⟨rfl, w1, w2, w3, w4⟩ := hv
      have hx := BB.exec
      have hb := BB.bytes
      have hr := BB.returns
      have hts := atoms_spec (ws := .code (yM mi) (bM mi) (lM mi) (rM mi) :: TW) BB.pre
      have hown : s.vm.findClass (yM mi).cls = some m.cls := findClass_of_methodNamed BB.named
      rw [← hon] at hown
      have hlocks := BB.notSynchronized
      have hname : meth.name = (yM mi).name := (name_of_methodNamed BB.named BB.method).1
      have hTW : ∀ w ∈ TW, w ∈ (Cond.code (yM mi) (bM mi) (lM mi) (rM mi) :: TW) := fun w hw => List.mem_cons_of_mem _ hw
      have hroom : (headSpec (.code (yM mi) (bM mi) (lM mi) (rM mi) :: TW) (mmRm mp (d + 1) mi)).room = mmRm mp (d + 1) mi := rfl
      rw [hroom]
      have hargl : (lg_sl (mmAv B b g (mp mi).1.reverse as)).length ≤ lM mi := by
        have := lg_len (B := B) (b := b) (g := g) (mp mi).1.reverse as
        rw [mm_sum_rev] at this
        omega
      have hl := lv_entry (mmAv B b g (mp mi).1.reverse as) (n := lM mi) hargl
      rw [lg_entry_eq]
      generalize (lg_sl (mmAv B b g (mp mi).1.reverse as) ++ List.replicate (lM mi - (lg_sl (mmAv B b g (mp mi).1.reverse as)).length) Slot.unset).toArray = lsA at hl ⊢
      simp only [mmChk, Bool.and_eq_true, decide_eq_true_eq] at hchk
      obtain ⟨c1, c2, c3⟩ := hchk
      have hn1 := w4.1
      have hz1 := w4.2.1
      have en : h 0 0 = (((h 0 0).toNat : Nat) : Int) := by omega
      have ez : h 0 1 = (((h 0 1).toNat : Nat) : Int) := by omega
      have hQm := rfl (a := MQ below (mmQc sh tg B b g aC D cl tys (mp mi).2.1 (mp mi).2.2.2.1 (mp mi).2.2.2.2.1 h Q) (mmAv B b g (mp mi).1.reverse as).toArray s (mp mi).2.2.2.1 (mp mi).2.2.2.2.1 (mmA B))
      have hC : mmCx (yM mi).name false (oM mi).1 (mp mi).2.1 aC p l (mmRm mp (d + 1) mi) s m (mmAv B b g (mp mi).1.reverse as).toArray meth c D cl (lM mi) B b (bM mi) tys onm TW (Cond.code (yM mi) (bM mi) (lM mi) (rM mi) :: TW) ((mp mi).2.2.2.1 : Int) ((mp mi).2.2.2.2.1 : Int) 0 (fun _ => 0) s.heap sh := by
        refine ⟨hx, hb, hml, hown, hts, hTW, w3, htys, rfl, rfl, ⟨?_, ?_, ?_⟩, hname, fun q => (by cases q), hcl7⟩
        · show 1 ≤ d + 1 + 5; omega
        · show _ ≤ 80 * (d + 1) + 120; omega
        · show 20 ≤ 80 * (d + 1) + 120; omega
      have key := hc (fun i ls st h' => ∀ (H : Heap) (locs : List Loc) (lsB : Array Slot), mmIn sh tg B b g aC (mmRm mp (d + 1) mi) s.heap D cl (lM mi) (h 0 0).toNat (h 0 1).toNat ls st h' H locs lsB →
        W p l e (mmRm mp (d + 1) mi) s m (mmAv B b g (mp mi).1.reverse as).toArray below meth c H locs ((h' 0 0).toNat - (h 0 0).toNat) ((h' 0 1).toNat - (h 0 1).toNat) (MQ below (mmQc sh tg B b g aC D cl tys (mp mi).2.1 (mp mi).2.2.2.1 (mp mi).2.2.2.2.1 h Q) (mmAv B b g (mp mi).1.reverse as).toArray s (mp mi).2.2.2.1 (mp mi).2.2.2.2.1 (mmA B)) (F0 m ((pM mi).getD i 0) lsB (st.map (mmVal B b g)))) ?_
      · have := key s.heap [] lsA ⟨?_, ?_, ?_, fun v hv => (by cases hv), ⟨w1, w2, va_S.rf, w4⟩, by omega, by omega, by omega, by omega⟩
        · rw [Nat.sub_self, Nat.sub_self] at this
          have e0 : (pM mi).getD 0 0 = 0 := by rw [List.getD_eq_getElem?_getD, c1]; rfl
          rw [e0] at this
          exact this
        · refine lv_less hl fun q hq => ?_
          obtain ⟨i, w⟩ := q
          obtain ⟨_, q2, rfl⟩ := (mmLv_in B b g).mp hq
          have := mmIl_at B b g _ _ _ 0 i q2
          rw [Nat.zero_add] at this
          exact this
        · exact mmIl_len B b g _ _ _ hargl
        · exact mmIl_ok _ _ _ hok
      · intro i ls st h' hex H locs lsB hin
        by_cases hi : i < (bl mi).length
        · have hci := List.all_eq_true.mp c3 i (List.mem_range.mpr (by omega))
          rw [en, ez] at hex
          refine ks_blk hF hC hini (fun mi' as' h'' Qc hk => IH mi' as' h'' Qc hk) (fun mi' => ⟨rfl, rfl, by show d + 5 + 1 ≤ d + 1 + 5; omega, by have := hl40 mi'; show 8 + (lM mi' + 11) + (80 * d + 120) ≤ 80 * (d + 1) + 120; omega⟩) ?_ (htext p e _ s m _ below meth c _ _ _ _ _ _ hx hb hown (fun w hw => hts w (hTW w hw)) hml ⟨by show 150 ≤ 80 * (d + 1) + 120; omega, by show 3 ≤ d + 1 + 5; omega⟩) (hgrid p e _ s m _ below meth c _ _ _ _ _ _ hx hb hown (fun w hw => hts w (hTW w hw)) w3) (fun bl' ls st h H locs lsA q hA => q H locs lsA hA) _ _ hci ls st h' H locs lsB hex hin
          intro pc' hd
          refine ks_ret hx hb hlocks rfl rfl rfl ⟨by omega, by omega⟩ ⟨rfl, rfl⟩ w3 hr rfl ?_
          rcases hrt with ⟨r1, r2⟩ | ⟨r1, r2⟩ | ⟨r1, r2⟩ | ⟨r1, r2⟩ | ⟨r1, r2⟩ <;> rcases hd with ⟨d1, d2⟩ | ⟨d1, d2⟩ | ⟨d1, d2⟩ | ⟨d1, d2⟩ | ⟨d1, d2⟩ <;> first
            | (exfalso; rw [r1] at d1; cases d1; done)
            | exact Or.inl ⟨r1, d2, r2⟩
            | exact Or.inr (Or.inl ⟨r1, d2, r2⟩)
            | exact Or.inr (Or.inr (Or.inl ⟨r1, d2, r2⟩))
            | exact Or.inr (Or.inr (Or.inr (Or.inl ⟨r1, d2, r2⟩)))
            | exact Or.inr (Or.inr (Or.inr (Or.inr ⟨r1, d2, r2⟩)))
        · rw [List.getD_eq_getElem?_getD, List.getElem?_eq_none (by omega)] at hex
          exact hex.elim
end MM1
end
section
/-! ===== mm: max and min ===== -/
section MR9
variable {sh : Int → Nat × Nat} {tg : Nat → Nat → Nat} {B b g : Nat} {aC : Nat → ClassId} {p : Program} {l : Launch} {e : Env} {R : Room} {s : State} {m : MethodId} {args : Array Value} {below : List Frame} {meth : Method} {c : Code} {H0 : Heap} {D : va_G} {cl : List vw_C} {nL n0 z0 : Nat} {Qm : State → Prop}
variable {pc : Nat} {k : mmKont} {cc : ByteArray}
theorem mm_lt64 {x y : Int} {n : Int} (hx : mmOk n (2, x)) (hy : mmOk n (2, y)) : (Int64.ofInt x < Int64.ofInt y) ↔ x < y := by
  rw [Int64.lt_iff_toInt_lt, mm_t64 hx.1 hx.2, mm_t64 hy.1 hy.2]
theorem ks_mmax (hx : p.tables.exec = Jvm.exec) (hb : c.code = cc) (hml : c.maxLocals = nL) {own : String} {index f : Nat} (hown : s.vm.findClass own = some m.cls) (hini : (Cond.initialized "java/lang/Math").before args s = true) (hR : 1 ≤ R.frames ∧ 30 ≤ R.locals) (hd : decode cc pc = .ok (.invokestatic index, 3))
    (hw : (f = 0 ∧ (Cond.methodLink own index Lib.Math.max.name).before args s = true ∧ (Cond.static Lib.Math.max.name).before args s = true ∧ (Cond.code Lib.Math.max.name Lib.Math.max.code 2 (some .int)).before args s = true) ∨
      (f = 1 ∧ (Cond.methodLink own index Lib.Math.min.name).before args s = true ∧ (Cond.static Lib.Math.min.name).before args s = true ∧ (Cond.code Lib.Math.min.name Lib.Math.min.code 2 (some .int)).before args s = true) ∨
      (f = 2 ∧ (Cond.methodLink own index Lib.MathLoose.max_long.x).before args s = true ∧ (Cond.static Lib.MathLoose.max_long.x).before args s = true ∧ (Cond.code Lib.MathLoose.max_long.x Lib.MathLoose.max_long.code 4 (some .long)).before args s = true) ∨
      (f = 3 ∧ (Cond.methodLink own index Lib.MathLoose.min_long.x).before args s = true ∧ (Cond.static Lib.MathLoose.min_long.x).before args s = true ∧ (Cond.code Lib.MathLoose.min_long.x Lib.MathLoose.min_long.code 4 (some .long)).before args s = true))
    (hk : mmKS sh tg B b g aC p l e R s m args below meth c H0 D cl nL n0 z0 Qm (pc + 3) k) : mmKS sh tg B b g aC p l e R s m args below meth c H0 D cl nL n0 z0 Qm pc (oMath f k) := by
  intro ls st h H locs lsA hp hA
  have hcnt := hA.2.2.2.2.2
  have hsz : c.maxLocals = lsA.size := by rw [hml]; exact hA.1.1.symm
  match st, hp, hA with
  | ⟨t1, y⟩ :: ⟨t2, x⟩ :: r, hp, hA =>
    have hs := hA.okS
    have hy := mm_head hs
    have hz := mm_head (mm_tail hs)
    rcases hw with ⟨rfl, w1, w2, w3⟩ | ⟨rfl, w1, w2, w3⟩ | ⟨rfl, w1, w2, w3⟩ | ⟨rfl, w1, w2, w3⟩
    · obtain ⟨ht, hp2⟩ := mmG_iff.mp hp
      simp only [Bool.and_eq_true] at ht
      have e1 : t1 = 1 := mm_beq ht.1
      have e2 : t2 = 1 := mm_beq ht.2.1
      have hcat := mm_ble ht.2.2
      subst e1; subst e2
      have hok : mmOk (h 0 0) (1, mMax x y) := by unfold mMax; split <;> assumption
      have h2 := hk ls _ h H locs lsA hp2 (hA.stk (mm_cons hok (mm_tail (mm_tail hs))))
      refine va_mmax hx hb hsz hown w1 w2 hini w3 hR.1 (by rw [mm_cat]; omega) (by omega) (by omega) hd ?_
      have e : (if Int32.ofInt x < Int32.ofInt y then Int32.ofInt y else Int32.ofInt x) = Int32.ofInt (mMax x y) := by
        unfold mMax
        by_cases q : x < y
        · rw [if_pos q, if_pos ((mm_lt32 hz hy).mpr q)]
        · rw [if_neg q, if_neg (fun z => q ((mm_lt32 hz hy).mp z))]
      rw [e]
      exact h2
    · obtain ⟨ht, hp2⟩ := mmG_iff.mp hp
      simp only [Bool.and_eq_true] at ht
      have e1 : t1 = 1 := mm_beq ht.1
      have e2 : t2 = 1 := mm_beq ht.2.1
      have hcat := mm_ble ht.2.2
      subst e1; subst e2
      have hok : mmOk (h 0 0) (1, mMin x y) := by unfold mMin; split <;> assumption
      have h2 := hk ls _ h H locs lsA hp2 (hA.stk (mm_cons hok (mm_tail (mm_tail hs))))
      refine va_mmin hx hb hsz hown w1 w2 hini w3 hR.1 (by rw [mm_cat]; omega) (by omega) (by omega) hd ?_
      have e : (if Int32.ofInt y < Int32.ofInt x then Int32.ofInt y else Int32.ofInt x) = Int32.ofInt (mMin x y) := by
        unfold mMin
        by_cases q : y < x
        · rw [if_pos q, if_pos ((mm_lt32 hy hz).mpr q)]
        · rw [if_neg q, if_neg (fun z => q ((mm_lt32 hy hz).mp z))]
      rw [e]
      exact h2
    · obtain ⟨ht, hp2⟩ := mmG_iff.mp hp
      simp only [Bool.and_eq_true] at ht
      have e1 : t1 = 2 := mm_beq ht.1
      have e2 : t2 = 2 := mm_beq ht.2.1
      have hcat := mm_ble ht.2.2
      subst e1; subst e2
      have hok : mmOk (h 0 0) (2, mMax x y) := by unfold mMax; split <;> assumption
      have h2 := hk ls _ h H locs lsA hp2 (hA.stk (mm_cons hok (mm_tail (mm_tail hs))))
      refine va_mmax_long hx hb hsz hown w1 w2 hini w3 hR.1 (by rw [mm_cat]; omega) (by omega) (by omega) hd ?_
      have e : (if Int64.ofInt y < Int64.ofInt x then Int64.ofInt x else Int64.ofInt y) = Int64.ofInt (mMax x y) := by
        unfold mMax
        by_cases q : x < y
        · rw [if_pos q, if_neg (fun z => by have := (mm_lt64 hy hz).mp z; omega)]
        · rw [if_neg q]
          by_cases q2 : y < x
          · rw [if_pos ((mm_lt64 hy hz).mpr q2)]
          · have : x = y := by omega
            rw [this]
            split <;> rfl
      rw [e]
      exact h2
    · obtain ⟨ht, hp2⟩ := mmG_iff.mp hp
      simp only [Bool.and_eq_true] at ht
      have e1 : t1 = 2 := mm_beq ht.1
      have e2 : t2 = 2 := mm_beq ht.2.1
      have hcat := mm_ble ht.2.2
      subst e1; subst e2
      have hok : mmOk (h 0 0) (2, mMin x y) := by unfold mMin; split <;> assumption
      have h2 := hk ls _ h H locs lsA hp2 (hA.stk (mm_cons hok (mm_tail (mm_tail hs))))
      refine va_mmin_long hx hb hsz hown w1 w2 hini w3 hR.1 (by rw [mm_cat]; omega) (by omega) (by omega) hd ?_
      have e : (if Int64.ofInt y < Int64.ofInt x then Int64.ofInt y else Int64.ofInt x) = Int64.ofInt (mMin x y) := by
        unfold mMin
        by_cases q : y < x
        · rw [if_pos q, if_pos ((mm_lt64 hy hz).mpr q)]
        · rw [if_neg q, if_neg (fun z => q ((mm_lt64 hy hz).mp z))]
      rw [e]
      exact h2
end MR9
end
section
/-! ===== mm: the law itself ===== -/
/-- the heap with which the law begins: nothing made, the next cell is 1 -/
def mmH0 : mmH := fun a b => if a = 0 ∧ b = 0 then 1 else 0
section ML
variable {sh : Int → Nat × Nat} {tg : Nat → Nat → Nat} {aC : Nat → ClassId} {D : va_G} {cl : List vw_C} {tys : List (ClassId × FieldType)} {wn : Nat → Int → Bool} {tb : mmT} {fin : Nat → Nat → Bool} {onm : Nat → String} {mp : Nat → mmM} {yM : Nat → MethodName} {bM : Nat → ByteArray} {lM : Nat → Nat} {rM : Nat → Option FieldType} {TW Ts : List Cond} {bl : Nat → List (List mmOp)} {oM : Nat → Nat × Bool} {pM : Nat → List Nat} {tx : List Int}
/-- a walk of a body whose end is the law's: from its checked blocks; Z: what the end wants -/
theorem mm_law {l : Launch} {p : Program} {e : Env} {R : Room} {s : State} {m : MethodId} {args : Array Value} {below : List Frame} {meth : Method} {c : Code} {nL B b g d Ln ow : Nat} {cc : ByteArray} {xs : Int → Int} {xs' : Nat → Int32} {pcs : List Nat} {blks : List (List mmOp)} {Qm : State → Prop}
    (hF : mmFT sh tg tb fin onm cl mp yM bM lM rM TW) (hM : mmFM tb fin onm mp yM bM lM rM TW bl oM pM) (hcl7 : ∀ x, (sh x).1 < 106) (hl40 : ∀ mi, lM mi ≤ 40) (hnat : nativeFrameWords "java/lang/System" "arraycopy" 5 ≤ 90) (htys : ∀ kd, kd < 6 → tys[kd]? = some (aC kd, mmKt kd))
    (htext : mmTextOk sh tg B b g aC l D cl tb onm TW tx) (hgrid : mmGridOk sh tg B b g aC l D cl tys tb onm TW)
    (hx : p.tables.exec = Jvm.exec) (hb : c.code = cc) (hml : c.maxLocals = nL) (hown : s.vm.findClass (onm ow) = some m.cls) (hts : ∀ w ∈ Ts, w.before args s = true) (hTW : ∀ w ∈ TW, w ∈ Ts) (hKA : mmKA D cl tys s) (hRm : d + 7 ≤ R.frames ∧ 80 * d + 200 ≤ R.locals)
    (hX : va_X b Ln xs' s s.heap) (hbl : b < s.heap.size) (hB : s.heap.size = B + 1) (hL2 : Ln < 2147483648) (hxs : ∀ j : Nat, j < Ln → xs j = (xs' j).toInt)
    (hchk : mmChk tb fin ow false true 4 cc pcs blks = true) (hargs : args = #[.ref b]) (hnL : 1 ≤ nL)
    (hend : ∀ (pc : Nat) (H : Heap) (locs : List Loc) (lsA : Array Slot) (n z : Nat), decode cc pc = .ok (.ireturn, 1) → (∀ q ∈ locs, s.heap.size ≤ q.base) → n ≤ R.cells → z ≤ R.slots → W p l e R s m args below meth c H locs n z Qm (F0 m pc lsA [.int 1]))
    (hpure : mmWb sh tg (fun _ _ => none) mp tx (mmC sh tg (fun _ _ => none) wn mp bl lM tx d) (fun x _ => x = 1) (wn 0) blks 1 0 (R.cells : Int) (R.slots : Int) (Ln : Int) xs 0 ((4, 0) :: List.replicate (nL - 1) (0, 0)) [] mmH0) :
    W p l e R s m args below meth c s.heap [] 0 0 Qm (entryFrame m args nL) := by
  subst hargs
  have hbB : b ≤ B := by omega
  have hl := lv_entry ([.ref b]) (n := nL) (show (lg_sl [Value.ref b]).length ≤ nL from hnL)
  rw [show (#[Value.ref b] : Array Value) = ([Value.ref b] : List Value).toArray from rfl, lg_entry_eq]
  generalize (lg_sl ([.ref b]) ++ List.replicate (nL - (lg_sl ([.ref b])).length) Slot.unset).toArray = lsA at hl ⊢
  simp only [mmChk, Bool.and_eq_true, decide_eq_true_eq] at hchk
  obtain ⟨c1, c2, c3⟩ := hchk
  have hC : mmCx meth.name true ow 4 aC p l R s m ([Value.ref b] : List Value).toArray meth c D cl nL B b cc tys onm TW Ts (R.cells : Int) (R.slots : Int) (Ln : Int) xs s.heap sh :=
    ⟨hx, hb, hml, hown, hts, hTW, hKA, htys, rfl, rfl, ⟨by omega, by omega, by omega⟩, rfl, fun _ => ⟨Ln, xs', hX, hbl, hbB, rfl, hL2, hxs⟩, hcl7⟩
  have key := hpure (fun i ls st h' => ∀ (H : Heap) (locs : List Loc) (lsB : Array Slot), mmIn sh tg B b g aC R s.heap D cl nL 1 0 ls st h' H locs lsB →
    W p l e R s m ([Value.ref b] : List Value).toArray below meth c H locs ((h' 0 0).toNat - 1) ((h' 0 1).toNat - 0) Qm (F0 m (pcs.getD i 0) lsB (st.map (mmVal B b g)))) ?_
  · have e00 : mmH0 0 0 = 1 := rfl
    have e01 : mmH0 0 1 = 0 := rfl
    have := key s.heap [] lsA ⟨?_, ?_, ?_, fun v hv => (by cases hv), ⟨?_, by rw [e00, hB]; rfl, va_S.rf, ?_⟩, ?_, ?_, ?_, ?_⟩
    · have e0 : pcs.getD 0 0 = 0 := by rw [List.getD_eq_getElem?_getD, c1]; rfl
      rw [e0, e00, e01] at this
      exact this
    · refine lv_less hl fun q hq => ?_
      obtain ⟨i, w⟩ := q
      obtain ⟨q1, q2, rfl⟩ := (mmLv_in B b g).mp hq
      cases i with
      | zero => exact List.mem_cons_self
      | succ i =>
        exfalso; apply q2
        rw [List.getD_cons_succ, List.getD_eq_getElem?_getD, List.getElem?_replicate]
        split <;> rfl
    · simp; omega
    · intro v hv
      rcases List.mem_cons.mp hv with q | q
      · rw [q]; trivial
      · rw [(List.mem_replicate.mp q).2]; trivial
    · intro k q hq
      have : (mmWs sh tg B b g aC mmH0) = [] := by
        unfold mmWs
        rw [e00]
        rfl
      rw [this] at hq
      simp at hq
    · refine ⟨by rw [e00]; omega, by rw [e01]; omega, fun k k1 k2 => ?_⟩
      rw [e00] at k2
      omega
    · rw [e00]; omega
    · rw [e01]; omega
    · rw [e00]; exact Nat.zero_le _
    · rw [e01]; exact Nat.zero_le _
  · intro i ls st h' hex H locs lsB hin
    by_cases hi : i < blks.length
    · have hci := List.all_eq_true.mp c3 i (List.mem_range.mpr (by omega))
      refine ks_blk (n0 := 1) (z0 := 0) (rmM := mmRm mp d) (isInit := false) (nm := meth.name) hF hC (fun q => by cases q) (fun mi' as' h'' Qc hk => mm_sound hF hM hcl7 hl40 hnat htys htext hgrid d mi' as' h'' Qc hk) (fun mi' => ⟨rfl, rfl, by show d + 5 + 1 ≤ R.frames; omega, by have := hl40 mi'; show 8 + (lM mi' + 11) + (80 * d + 120) ≤ R.locals; omega⟩) ?_ (htext p e _ s m _ below meth c _ _ _ _ _ _ hx hb hown (fun w hw => hts w (hTW w hw)) hml ⟨by omega, by omega⟩) (hgrid p e _ s m _ below meth c _ _ _ _ _ _ hx hb hown (fun w hw => hts w (hTW w hw)) hKA) (fun bl' ls st h H locs lsA q hA => q H locs lsA hA) _ _ hci ls st h' H locs lsB hex hin
      intro pc' hd
      have hd : decode cc pc' = .ok (.ireturn, 1) := by
        rcases hd with ⟨d1, d2⟩ | ⟨d1, d2⟩ | ⟨d1, d2⟩ | ⟨d1, d2⟩ | ⟨d1, d2⟩ <;> first
          | (exfalso; omega)
          | exact d2
      intro ls st h H locs lsA hp hA
      match st, hp, hA with
      | [⟨t, x⟩], hp, hA =>
        obtain ⟨ht, hp⟩ := mmG_iff.mp hp
        obtain ⟨-, hp2⟩ := mmD_iff.mp hp
        have e1 : t = 1 := mm_beq ht
        subst e1
        have hp3 : x = 1 := hp2
        subst hp3
        have hcnt := hA.2.2.2.2.2
        have hS := hA.wh.2.2.1.2.2
        exact hend pc' H locs lsA _ _ hd (fun q hq => by have := hS q hq; unfold mmA at this; omega) (by omega) (by omega)
    · rw [List.getD_eq_getElem?_getD, List.getElem?_eq_none (by omega)] at hex
      exact hex.elim
end ML
end
section
/-! ===== mm: a long block's check in pieces ===== -/
def mmChkP (tb : mmT) (fin : Nat → Nat → Bool) (ow : Nat) (isInit sc : Bool) (rt : Nat) (cc : ByteArray) (pcs : List Nat) : Nat → List mmOp → Option Nat
  | pc, [] => some pc
  | pc, op :: ops => match decode cc pc with
    | .ok q => bif (mmCand tb fin ow isInit sc rt pcs pc op).any (fun z => decide (q = z)) then mmChkP tb fin ow isInit sc rt cc pcs (pc + q.2) ops else none
    | _ => none
theorem mmChkP_app {tb : mmT} {fin : Nat → Nat → Bool} {ow : Nat} {isInit sc : Bool} {rt : Nat} {cc : ByteArray} {pcs : List Nat} {b : List mmOp} : ∀ (a : List mmOp) (pc pc' : Nat), mmChkP tb fin ow isInit sc rt cc pcs pc a = some pc' → mmChkB tb fin ow isInit sc rt cc pcs pc' b = true → mmChkB tb fin ow isInit sc rt cc pcs pc (a ++ b) = true
  | [], pc, pc', h, hb => by
    simp only [mmChkP, Option.some.injEq] at h
    rw [h]
    exact hb
  | op :: ops, pc, pc', h, hb => by
    unfold mmChkP at h
    rw [List.cons_append]
    unfold mmChkB
    cases hd : decode cc pc with
    | error z => rw [hd] at h; simp at h
    | ok q =>
      rw [hd] at h
      simp only [] at h ⊢
      cases hc : (mmCand tb fin ow isInit sc rt pcs pc op).any (fun z => decide (q = z)) with
      | false => rw [hc] at h; simp at h
      | true =>
        rw [hc] at h
        simp only [cond_true] at h
        rw [mmChkP_app ops _ _ h hb]
        simp
theorem mmChk_of {tb : mmT} {fin : Nat → Nat → Bool} {ow : Nat} {isInit sc : Bool} {rt : Nat} {cc : ByteArray} {pcs : List Nat} {blks : List (List mmOp)} (h0 : pcs[0]? = some 0) (hl : pcs.length = blks.length) (h : ∀ b, b < pcs.length → mmChkB tb fin ow isInit sc rt cc pcs (pcs.getD b 0) (blks.getD b []) = true) : mmChk tb fin ow isInit sc rt cc pcs blks = true := by
  simp only [mmChk, Bool.and_eq_true, decide_eq_true_eq]
  exact ⟨h0, hl, List.all_eq_true.mpr fun b hb => h b (List.mem_range.mp hb)⟩
end
section
/-! ===== mm: more is more ===== -/
section MMo
variable {sh : Int → Nat × Nat} {tg : Nat → Nat → Nat} {fc : Int → Int → Option Int} {wn : Int → Bool} {mp : Nat → mmM}
theorem mmG_mono {b : Bool} {P P' : Prop} (h : P → P') : mmG b P → mmG b P' := fun q => mmG_iff.mpr ⟨(mmG_iff.mp q).1, h (mmG_iff.mp q).2⟩
theorem mmTsw_mono {x : Int} {F F' : Nat → Prop} (h : ∀ b, F b → F' b) : ∀ (ts : List Int) (lo : Int), mmTsw x lo ts F → mmTsw x lo ts F'
  | [], _, _ => trivial
  | t :: ts, lo, q => ⟨fun e => h _ (q.1 e), mmTsw_mono h ts (lo + 1) q.2⟩
theorem mmLsw_mono {x : Int} {F F' : Nat → Prop} {D D' : Prop} (h : ∀ b, F b → F' b) (hD : D → D') : ∀ (ts : List Int), mmLsw x ts F D → mmLsw x ts F' D'
  | [], q => hD q
  | [_], q => hD q
  | k :: t :: r, q => ⟨fun e => h _ (q.1 e), fun e => mmLsw_mono h hD r (q.2 e)⟩
variable {K K' : Nat → List Int → mmH → (Int → mmH → Prop) → Prop} {Q Q' : Int → mmH → Prop} {X X' : Nat → mmKont} {n0 z0 mc ms L : Int} {xs : Int → Int} {tx : List Int}
/-- J: what is known of every heap that is met -/
theorem mmStep_mono (hK : ∀ m as h (P P' : Int → mmH → Prop), (∀ x h', P x h' → P' x h') → K m as h P → K' m as h P') (hQ : ∀ x h, Q x h → Q' x h) (hX : ∀ i ls st h, X i ls st h → X' i ls st h) (o : Nat) (a : Int) (l : List Int) {k k' : mmKont} (hk : ∀ ls st h, k ls st h → k' ls st h) (ls st : List mmV) (h : mmH) :
    mmStep sh tg fc wn mp K Q X n0 z0 mc ms L xs tx o a l k ls st h → mmStep sh tg fc wn mp K' Q' X' n0 z0 mc ms L xs tx o a l k' ls st h := by
  intro q
  match o, q with
  | 0, q => exact hk _ _ _ q
  | 1, q => exact mmG_mono (hk _ _ _) q
  | 2, q =>
    match st, q with
    | v :: r, q => exact mmG_mono (hk _ _ _) q
  | 3, q => exact mmG_mono (hk _ _ _) q
  | 4, q =>
    match st, q with
    | b :: c :: r, q => exact mmG_mono (hk _ _ _) q
  | 5, q =>
    match st, q with
    | b :: c :: r, q => exact mmG_mono (hk _ _ _) q
  | 6, q =>
    match st, q with
    | b :: c :: r, q =>
      show oDv a.toNat k' ls (b :: c :: r) h
      have q : oDv a.toNat k ls (b :: c :: r) h := q
      unfold oDv at q ⊢
      simp only [] at q ⊢
      split at q <;> exact mmG_mono (mmG_mono (hk _ _ _)) q
  | 7, q =>
    match st, q with
    | c :: r, q =>
      show oCv a.toNat k' ls (c :: r) h
      have q : oCv a.toNat k ls (c :: r) h := q
      unfold oCv at q ⊢
      simp only [] at q ⊢
      split at q <;> exact mmG_mono (hk _ _ _) q
  | 8, q =>
    match st, q with
    | b :: c :: r, q => exact mmG_mono (hk _ _ _) q
  | 9, q =>
    show oStk a.toNat k' ls st h
    have q : oStk a.toNat k ls st h := q
    unfold oStk at q ⊢
    split at q
    · match st, q with
      | b :: r, q => exact mmG_mono (hk _ _ _) q
    · match st, q with
      | b :: c :: r, q => exact mmG_mono (hk _ _ _) q
    · match st, q with
      | b :: r, q => exact mmG_mono (hk _ _ _) q
  | 10, q =>
    match st, q with
    | v :: r, q => exact mmG_mono (mmG_mono (hk _ _ _)) q
  | 11, q =>
    match st, q with
    | w :: v :: r, q => exact mmG_mono (mmG_mono (hk _ _ _)) q
  | 12, q =>
    match st, q with
    | w :: v :: r, q => exact mmG_mono (mmG_mono (mmG_mono (hk _ _ _))) q
  | 13, q =>
    match st, q with
    | z :: w :: v :: r, q => exact mmG_mono (mmG_mono (mmG_mono (mmG_mono (hk _ _ _)))) q
  | 14, q =>
    match st, q with
    | v :: r, q => exact mmG_mono (mmG_mono (hk _ _ _)) q
  | 15, q =>
    match st, q with
    | v :: r, q => exact mmG_mono (fun z => ⟨fun e => hX _ _ _ _ (z.1 e), fun e => hk _ _ _ (z.2 e)⟩) q
  | 16, q =>
    match st, q with
    | w :: v :: r, q => exact mmG_mono (fun z => ⟨fun e => hX _ _ _ _ (z.1 e), fun e => hk _ _ _ (z.2 e)⟩) q
  | 17, q => exact hX _ _ _ _ q
  | 18, q =>
    match st, l, q with
    | v :: r, d :: ts, q => exact mmG_mono (fun z => ⟨mmTsw_mono (fun b => hX _ _ _ _) ts a z.1, fun e => hX _ _ _ _ (z.2 e)⟩) q
    | v :: r, [], q => exact q
  | 19, q =>
    match st, l, q with
    | v :: r, d :: ts, q => exact mmG_mono (mmLsw_mono (fun b => hX _ _ _ _) (hX _ _ _ _) ts) q
    | v :: r, [], q => exact q
  | 20, q =>
    show oRet Q' a.toNat ls st h
    have q : oRet Q a.toNat ls st h := q
    unfold oRet at q ⊢
    split at q
    · match st, q with
      | [], q => exact hQ _ _ q
    · match st, q with
      | [v], q => exact mmG_mono (mmG_mono (hQ _ _)) q
    · match st, q with
      | [v], q => exact mmG_mono (hQ _ _) q
  | 21, q =>
    show oCall sh mp K' n0 z0 mc ms a.toNat k' ls st h
    have q : oCall sh mp K n0 z0 mc ms a.toNat k ls st h := q
    unfold oCall at q ⊢
    split at q
    · exact q.elim
    · exact mmG_mono (mmG_mono (mmG_mono (hK _ _ _ _ _ (fun x h' => hk _ _ _)))) q
  | 22, q => exact ⟨q.1, q.2.1, hk _ _ _ q.2.2⟩
  | 23, q =>
    match st, q with
    | v :: r, q => exact mmG_mono (fun z => ⟨z.1, z.2.1, hk _ _ _ z.2.2⟩) q
  | 24, q =>
    match st, q with
    | w :: v :: r, q => exact mmG_mono (fun z => ⟨z.1, z.2.1, z.2.2.1, z.2.2.2.1, hk _ _ _ z.2.2.2.2⟩) q
  | 25, q =>
    match st, q with
    | n :: dp :: b :: sp :: c :: r, q => exact mmG_mono (mmG_mono (mmG_mono (hk _ _ _))) q
  | 26, q =>
    match st, q with
    | v :: r, q => exact mmG_mono (mmG_mono (hk _ _ _)) q
  | 27, q =>
    match st, q with
    | w :: v :: r, q => exact mmG_mono (fun z => ⟨z.1, hk _ _ _ z.2⟩) q
  | 28, q =>
    match st, q with
    | v :: r, q => exact mmG_mono (hk _ _ _) q
  | 29, q =>
    match st, q with
    | v :: r, q => exact mmG_mono (hk _ _ _) q
  | 30, q =>
    match st, q with
    | w :: v :: r, q => exact mmG_mono (fun z => ⟨z.1, hk _ _ _ z.2⟩) q
  | 31, q =>
    match st, q with
    | b :: c :: r, q =>
      show oMath a.toNat k' ls (b :: c :: r) h
      have q : oMath a.toNat k ls (b :: c :: r) h := q
      unfold oMath at q ⊢
      simp only [] at q ⊢
      split at q <;> first
        | exact mmG_mono (hk _ _ _) q
        | exact mmG_mono (mmG_mono (hk _ _ _)) q
  | n + 32, q => exact q
theorem mmEx_mono (hK : ∀ m as h (P P' : Int → mmH → Prop), (∀ x h', P x h' → P' x h') → K m as h P → K' m as h P') (hQ : ∀ x h, Q x h → Q' x h) (hX : ∀ i ls st h, X i ls st h → X' i ls st h) : ∀ (ops : List mmOp) (ls st : List mmV) (h : mmH),
    mmEx sh tg fc wn mp K Q X n0 z0 mc ms L xs tx ops ls st h → mmEx sh tg fc wn mp K' Q' X' n0 z0 mc ms L xs tx ops ls st h
  | [], _, _, _, q => q
  | op :: ops, ls, st, h, q => mmStep_mono hK hQ hX op.1 op.2.1 op.2.2 (fun ls st h => mmEx_mono hK hQ hX ops ls st h) ls st h q
end MMo
section MMw
variable {sh : Int → Nat × Nat} {tg : Nat → Nat → Nat} {fc : Int → Int → Option Int} {mp : Nat → mmM} {tx : List Int}
variable {K : Nat → List Int → mmH → (Int → mmH → Prop) → Prop} {Q Q' : Int → mmH → Prop} {w : Int → Bool} {blks : List (List mmOp)} {n0 z0 mc ms L : Int} {xs : Int → Int}
theorem mmWb_mono (hQ : ∀ x h, Q x h → Q' x h) (hK : ∀ m as h (P P' : Int → mmH → Prop), (∀ x h', P x h' → P' x h') → K m as h P → K m as h P') {i : Nat} {ls st : List mmV} {h : mmH} (q : mmWb sh tg fc mp tx K Q w blks n0 z0 mc ms L xs i ls st h) : mmWb sh tg fc mp tx K Q' w blks n0 z0 mc ms L xs i ls st h :=
  fun X hX => q X fun i ls st h z => hX i ls st h (mmEx_mono (K := K) (K' := K) hK hQ (fun _ _ _ _ y => y) _ _ _ _ z)
theorem mmWb_fold (hK : ∀ m as h (P P' : Int → mmH → Prop), (∀ x h', P x h' → P' x h') → K m as h P → K m as h P') {i : Nat} {ls st : List mmV} {h : mmH} (q : mmEx sh tg fc w mp K Q (mmWb sh tg fc mp tx K Q w blks n0 z0 mc ms L xs) n0 z0 mc ms L xs tx (blks.getD i []) ls st h) : mmWb sh tg fc mp tx K Q w blks n0 z0 mc ms L xs i ls st h :=
  fun X hX => hX i ls st h (mmEx_mono (K := K) (K' := K) hK (fun _ _ y => y) (fun j ls st h z => z X hX) _ _ _ _ q)
/-- blocks unrolled, but at cuts -/
def mmXn (sh : Int → Nat × Nat) (tg : Nat → Nat → Nat) (fc : Int → Int → Option Int) (mp : Nat → mmM) (tx : List Int) (K : Nat → List Int → mmH → (Int → mmH → Prop) → Prop) (Q : Int → mmH → Prop) (w : Int → Bool) (blks : List (List mmOp)) (n0 z0 mc ms L : Int) (xs : Int → Int) (cut : Nat → Bool) : Nat → Nat → mmKont
  | 0, i => mmWb sh tg fc mp tx K Q w blks n0 z0 mc ms L xs i
  | f + 1, i => match cut i with
    | true => mmWb sh tg fc mp tx K Q w blks n0 z0 mc ms L xs i
    | false => mmEx sh tg fc w mp K Q (mmXn sh tg fc mp tx K Q w blks n0 z0 mc ms L xs cut f) n0 z0 mc ms L xs tx (blks.getD i [])
theorem mmXn_ok (hK : ∀ m as h (P P' : Int → mmH → Prop), (∀ x h', P x h' → P' x h') → K m as h P → K m as h P') {cut : Nat → Bool} : ∀ (f i : Nat) (ls st : List mmV) (h : mmH), mmXn sh tg fc mp tx K Q w blks n0 z0 mc ms L xs cut f i ls st h → mmWb sh tg fc mp tx K Q w blks n0 z0 mc ms L xs i ls st h
  | 0, i, ls, st, h, q => q
  | f + 1, i, ls, st, h, q => by
    unfold mmXn at q
    cases e : cut i with
    | true => rw [e] at q; exact q
    | false =>
      rw [e] at q
      exact mmWb_fold hK (mmEx_mono (K := K) (K' := K) hK (fun _ _ y => y) (fun j ls st h z => mmXn_ok hK f j ls st h z) _ _ _ _ q)
variable {wn : Nat → Int → Bool} {bl : Nat → List (List mmOp)} {nl : Nat → Nat}
theorem mmC_mono : ∀ (d m : Nat) (as : List Int) (h : mmH) (P P' : Int → mmH → Prop), (∀ x h', P x h' → P' x h') → mmC sh tg fc wn mp bl nl tx d m as h P → mmC sh tg fc wn mp bl nl tx d m as h P'
  | 0, _, _, _, _, _, _, q => q
  | d + 1, m, as, h, P, P', hp, q => mmWb_mono (fun x h' z => ⟨z.1, hp x h' z.2⟩) (mmC_mono d) q
theorem mmC_succ : ∀ (d m : Nat) (as : List Int) (h : mmH) (P : Int → mmH → Prop), mmC sh tg fc wn mp bl nl tx d m as h P → mmC sh tg fc wn mp bl nl tx (d + 1) m as h P
  | 0, _, _, _, _, q => q.elim
  | d + 1, m, as, h, P, q => fun X hX => q X fun i ls st h z => hX i ls st h (mmEx_mono (fun m as h P P' hp y => mmC_mono (d + 1) m as h P P' hp (mmC_succ d m as h P y)) (fun _ _ y => y) (fun _ _ _ _ y => y) _ _ _ _ z)
theorem mmC_le {d d' m : Nat} {as : List Int} {h : mmH} {P : Int → mmH → Prop} (hd : d ≤ d') (q : mmC sh tg fc wn mp bl nl tx d m as h P) : mmC sh tg fc wn mp bl nl tx d' m as h P := by
  obtain ⟨k, rfl⟩ := Nat.exists_eq_add_of_le hd
  induction k with
  | zero => exact q
  | succ k ih => exact mmC_succ _ _ _ _ _ (ih (by omega))
end MMw
end
section
/-! ===== mm: where nothing is made: known slots are read as what they hold, only one side's cells are written ===== -/
section MRr
variable {sh : Int → Nat × Nat} {tg : Nat → Nat → Nat} {fc : Int → Int → Option Int} {w : Int → Bool} {mp : Nat → mmM}
def mmInv (fc : Int → Int → Option Int) (h : mmH) : Prop := ∀ k i c, fc k i = some c → h k i = c
/-- what holds of every heap on the way: the known slots, the other side's cells as they were -/
def mmJ (fc : Int → Int → Option Int) (w : Int → Bool) (hs h : mmH) : Prop := mmInv fc h ∧ ∀ k, w k = false → h k = hs k
theorem mmJ.get {hs h : mmH} (hJ : mmJ fc w hs h) (k i : Int) : (fc k i).getD (h k i) = h k i := by
  cases e : fc k i with
  | none => rfl
  | some c => exact (hJ.1 k i c e).symm
theorem mmJ.put {hs h : mmH} {k i v : Int} (hJ : mmJ fc w hs h) (hw : w k = true) (hf : (fc k i).isNone = true) : mmJ fc w hs (mmS h k i v) := by
  refine ⟨fun a b c e => ?_, fun a ha => ?_⟩
  · have h1 := hJ.1 a b c e
    unfold mmS
    by_cases ea : a = k
    · rw [if_pos ea]
      by_cases eb : b = i
      · subst ea; subst eb
        rw [e] at hf
        cases hf
      · rw [if_neg eb]; exact h1
    · rw [if_neg ea]; exact h1
  · rw [← hJ.2 a ha]
    funext b
    have : a ≠ k := fun e => by rw [e, hw] at ha; cases ha
    exact mmS_cell this
variable {K K' : Nat → List Int → mmH → (Int → mmH → Prop) → Prop} {Q Q' : Int → mmH → Prop} {X X' : Nat → mmKont} {n0 z0 L : Int} {xs : Int → Int} {tx : List Int} {hs : mmH}
theorem mmStep_run (h0 : w 0 = false) (hn0 : hs 0 0 = n0) (hfc : ∀ k i, (sh k).1 = 100 → fc k i = none)
    (hK : ∀ m as h (P P' : Int → mmH → Prop), mmJ fc w hs h → (∀ x h', mmJ fc w hs h' → P' x h' → P x h') → K' m as h P' → K m as h P) (hQ : ∀ x h, mmJ fc w hs h → Q' x h → Q x h) (hX : ∀ i ls st h, mmJ fc w hs h → X' i ls st h → X i ls st h) (o : Nat) (a : Int) (l : List Int) {k k' : mmKont} (hk : ∀ ls st h, mmJ fc w hs h → k' ls st h → k ls st h) (ls st : List mmV) (h : mmH) (hJ : mmJ fc w hs h) :
    mmStep sh tg fc w mp K' Q' X' n0 z0 0 0 L xs tx o a l k' ls st h → mmStep sh tg (fun _ _ => none) w mp K Q X n0 z0 0 0 L xs tx o a l k ls st h := by
  intro q
  have hh0 : h 0 0 = n0 := by rw [hJ.2 0 h0]; exact hn0
  match o, q with
  | 0, q => exact hk _ _ _ hJ q
  | 1, q => exact mmG_mono (hk _ _ _ hJ) q
  | 2, q =>
    match st, q with
    | v :: r, q => exact mmG_mono (hk _ _ _ hJ) q
  | 3, q => exact mmG_mono (hk _ _ _ hJ) q
  | 4, q =>
    match st, q with
    | b :: c :: r, q => exact mmG_mono (hk _ _ _ hJ) q
  | 5, q =>
    match st, q with
    | b :: c :: r, q => exact mmG_mono (hk _ _ _ hJ) q
  | 6, q =>
    match st, q with
    | b :: c :: r, q =>
      show oDv a.toNat k ls (b :: c :: r) h
      have q : oDv a.toNat k' ls (b :: c :: r) h := q
      unfold oDv at q ⊢
      simp only [] at q ⊢
      split at q <;> exact mmG_mono (mmG_mono (hk _ _ _ hJ)) q
  | 7, q =>
    match st, q with
    | c :: r, q =>
      show oCv a.toNat k ls (c :: r) h
      have q : oCv a.toNat k' ls (c :: r) h := q
      unfold oCv at q ⊢
      simp only [] at q ⊢
      split at q <;> exact mmG_mono (hk _ _ _ hJ) q
  | 8, q =>
    match st, q with
    | b :: c :: r, q => exact mmG_mono (hk _ _ _ hJ) q
  | 9, q =>
    show oStk a.toNat k ls st h
    have q : oStk a.toNat k' ls st h := q
    unfold oStk at q ⊢
    split at q
    · match st, q with
      | b :: r, q => exact mmG_mono (hk _ _ _ hJ) q
    · match st, q with
      | b :: c :: r, q => exact mmG_mono (hk _ _ _ hJ) q
    · match st, q with
      | b :: r, q => exact mmG_mono (hk _ _ _ hJ) q
  | 10, q =>
    match st, q with
    | v :: r, q =>
      refine mmG_mono (mmG_mono (fun z => ?_)) q
      rw [hJ.get] at z
      exact hk _ _ _ hJ z
  | 11, q =>
    match st, q with
    | u :: v :: r, q =>
      refine mmG_mono (fun z => ?_) q
      obtain ⟨z1, z2⟩ := mmG_iff.mp z
      simp only [Bool.and_eq_true] at z1
      refine mmG_iff.mpr ⟨?_, hk _ _ _ (hJ.put z1.2.1 z1.2.2) z2⟩
      rw [z1.1, z1.2.1]
      rfl
  | 12, q =>
    match st, q with
    | u :: v :: r, q =>
      refine mmG_mono (mmG_mono (mmG_mono (fun z => ?_))) q
      rw [hJ.get] at z
      exact hk _ _ _ hJ z
  | 13, q =>
    match st, q with
    | t :: u :: v :: r, q =>
      refine mmG_mono (fun z => ?_) q
      obtain ⟨z1, z2⟩ := mmG_iff.mp z
      simp only [Bool.and_eq_true] at z1
      refine mmG_iff.mpr ⟨?_, mmG_mono (mmG_mono (hk _ _ _ (hJ.put z1.2.1 z1.2.2))) z2⟩
      rw [z1.1, z1.2.1]
      rfl
  | 14, q =>
    match st, q with
    | v :: r, q => exact mmG_mono (mmG_mono (hk _ _ _ hJ)) q
  | 15, q =>
    match st, q with
    | v :: r, q => exact mmG_mono (fun z => ⟨fun e => hX _ _ _ _ hJ (z.1 e), fun e => hk _ _ _ hJ (z.2 e)⟩) q
  | 16, q =>
    match st, q with
    | u :: v :: r, q => exact mmG_mono (fun z => ⟨fun e => hX _ _ _ _ hJ (z.1 e), fun e => hk _ _ _ hJ (z.2 e)⟩) q
  | 17, q => exact hX _ _ _ _ hJ q
  | 18, q =>
    match st, l, q with
    | v :: r, d :: ts, q => exact mmG_mono (fun z => ⟨mmTsw_mono (fun b => hX _ _ _ _ hJ) ts a z.1, fun e => hX _ _ _ _ hJ (z.2 e)⟩) q
    | v :: r, [], q => exact q
  | 19, q =>
    match st, l, q with
    | v :: r, d :: ts, q => exact mmG_mono (mmLsw_mono (fun b => hX _ _ _ _ hJ) (hX _ _ _ _ hJ) ts) q
    | v :: r, [], q => exact q
  | 20, q =>
    show oRet Q a.toNat ls st h
    have q : oRet Q' a.toNat ls st h := q
    unfold oRet at q ⊢
    split at q
    · match st, q with
      | [], q => exact hQ _ _ hJ q
    · match st, q with
      | [v], q => exact mmG_mono (mmG_mono (hQ _ _ hJ)) q
    · match st, q with
      | [v], q => exact mmG_mono (hQ _ _ hJ) q
  | 21, q =>
    show oCall sh mp K n0 z0 0 0 a.toNat k ls st h
    have q : oCall sh mp K' n0 z0 0 0 a.toNat k' ls st h := q
    unfold oCall at q ⊢
    split at q
    · exact q.elim
    · exact mmG_mono (mmG_mono (mmG_mono (hK _ _ _ _ _ hJ (fun x h' hJ' => hk _ _ _ hJ')))) q
  | 22, q =>
    have := q.2.1.1
    omega
  | 23, q =>
    match st, q with
    | v :: r, q =>
      have := ((mmG_iff.mp q).2).2.1.1
      omega
  | 24, q =>
    match st, q with
    | u :: v :: r, q =>
      have z := (mmG_iff.mp q).2
      have z1 := z.1.2.1
      have z2 := z.2.2.2.1.1
      omega
  | 25, q =>
    match st, q with
    | n :: dp :: b :: sp :: c :: r, q =>
      refine mmG_mono (fun z => ?_) q
      obtain ⟨z1, z2⟩ := mmG_iff.mp z
      refine mmG_iff.mpr ⟨z1, mmG_mono (hk _ _ _ ?_) z2⟩
      simp only [Bool.and_eq_true] at z1
      have hb := mm_beq z1.2.1
      refine ⟨fun x i cc e => ?_, fun x hx => ?_⟩
      · unfold mmCpy
        by_cases ex : x = b.2
        · rw [ex, hfc _ _ hb] at e; cases e
        · rw [if_neg ex]; exact hJ.1 x i cc e
      · rw [← hJ.2 x hx]
        funext i
        unfold mmCpy
        rw [if_neg (fun e => by rw [e, z1.2.2] at hx; cases hx)]
  | 26, q =>
    match st, q with
    | v :: r, q => exact mmG_mono (mmG_mono (hk _ _ _ hJ)) q
  | 27, q =>
    match st, q with
    | u :: v :: r, q => exact mmG_mono (fun z => ⟨z.1, hk _ _ _ hJ z.2⟩) q
  | 28, q =>
    match st, q with
    | v :: r, q => exact mmG_mono (hk _ _ _ hJ) q
  | 29, q =>
    match st, q with
    | v :: r, q => exact mmG_mono (hk _ _ _ hJ) q
  | 30, q =>
    match st, q with
    | u :: v :: r, q => exact mmG_mono (fun z => ⟨z.1, hk _ _ _ hJ z.2⟩) q
  | 31, q =>
    match st, q with
    | b :: c :: r, q =>
      show oMath a.toNat k ls (b :: c :: r) h
      have q : oMath a.toNat k' ls (b :: c :: r) h := q
      unfold oMath at q ⊢
      simp only [] at q ⊢
      split at q <;> first
        | exact mmG_mono (hk _ _ _ hJ) q
        | exact mmG_mono (mmG_mono (hk _ _ _ hJ)) q
  | n + 32, q => exact q
theorem mmEx_run (h0 : w 0 = false) (hn0 : hs 0 0 = n0) (hfc : ∀ k i, (sh k).1 = 100 → fc k i = none)
    (hK : ∀ m as h (P P' : Int → mmH → Prop), mmJ fc w hs h → (∀ x h', mmJ fc w hs h' → P' x h' → P x h') → K' m as h P' → K m as h P) (hQ : ∀ x h, mmJ fc w hs h → Q' x h → Q x h) (hX : ∀ i ls st h, mmJ fc w hs h → X' i ls st h → X i ls st h) : ∀ (ops : List mmOp) (ls st : List mmV) (h : mmH), mmJ fc w hs h →
    mmEx sh tg fc w mp K' Q' X' n0 z0 0 0 L xs tx ops ls st h → mmEx sh tg (fun _ _ => none) w mp K Q X n0 z0 0 0 L xs tx ops ls st h
  | [], _, _, _, _, q => q
  | op :: ops, ls, st, h, hJ, q => mmStep_run h0 hn0 hfc hK hQ hX op.1 op.2.1 op.2.2 (fun ls st h hJ z => mmEx_run h0 hn0 hfc hK hQ hX ops ls st h hJ z) ls st h hJ q
end MRr
section MRc
variable (sh : Int → Nat × Nat) (tg : Nat → Nat → Nat) (fc : Int → Int → Option Int) (wn : Nat → Int → Bool) (mp : Nat → mmM) (bl : Nat → List (List mmOp)) (nl : Nat → Nat) (tx : List Int)
/-- a method's calls: of its own side, or pure -/
def mmKm (K : Nat → List Int → mmH → (Int → mmH → Prop) → Prop) (mi : Nat) : Nat → List Int → mmH → (Int → mmH → Prop) → Prop := fun mj as h P => mmG (Nat.beq (mp mj).2.2.2.2.2 (mp mi).2.2.2.2.2 || Nat.beq (mp mj).2.2.2.2.2 3) (K mj as h P)
/-- a method where nothing is made -/
def mmRC : Nat → Nat → List Int → mmH → (Int → mmH → Prop) → Prop
  | 0, _, _, _, _ => False
  | d + 1, mi, as, h, Q => mmWb sh tg fc mp tx (mmKm mp (mmRC d) mi) Q (wn (mp mi).2.2.2.2.2) (bl mi) (h 0 0) (h 0 1) 0 0 0 (fun _ => 0) 0 (mmIl (mp mi).1.reverse as (nl mi)) [] h
end MRc
section MRd
variable {sh : Int → Nat × Nat} {tg : Nat → Nat → Nat} {fc : Int → Int → Option Int} {wn : Nat → Int → Bool} {mp : Nat → mmM} {bl : Nat → List (List mmOp)} {nl : Nat → Nat} {tx : List Int}
theorem mmKm_mono {K K' : Nat → List Int → mmH → (Int → mmH → Prop) → Prop} {mi m : Nat} {as : List Int} {h : mmH} {P P' : Int → mmH → Prop} (hK : K m as h P → K' m as h P') (q : mmKm mp K mi m as h P) : mmKm mp K' mi m as h P' := mmG_mono hK q
theorem mmRC_mono : ∀ (d m : Nat) (as : List Int) (h : mmH) (P P' : Int → mmH → Prop), (∀ x h', P x h' → P' x h') → mmRC sh tg fc wn mp bl nl tx d m as h P → mmRC sh tg fc wn mp bl nl tx d m as h P'
  | 0, _, _, _, _, _, _, q => q
  | d + 1, m, as, h, P, P', hp, q => by
    have hK : ∀ m' as h (P P' : Int → mmH → Prop), (∀ x h', P x h' → P' x h') → mmKm mp (mmRC sh tg fc wn mp bl nl tx d) m m' as h P → mmKm mp (mmRC sh tg fc wn mp bl nl tx d) m m' as h P' := fun m' as h P P' hp z => mmG_mono (mmRC_mono d m' as h P P' hp) z
    unfold mmRC at q ⊢
    exact mmWb_mono hp hK q
theorem mmRC_succ : ∀ (d m : Nat) (as : List Int) (h : mmH) (P : Int → mmH → Prop), mmRC sh tg fc wn mp bl nl tx d m as h P → mmRC sh tg fc wn mp bl nl tx (d + 1) m as h P
  | 0, _, _, _, _, q => q.elim
  | d + 1, m, as, h, P, q => by
    have hK : ∀ m' as h (P P' : Int → mmH → Prop), (∀ x h', P x h' → P' x h') → mmKm mp (mmRC sh tg fc wn mp bl nl tx d) m m' as h P → mmKm mp (mmRC sh tg fc wn mp bl nl tx (d + 1)) m m' as h P' := fun m' as h P P' hp z => mmG_mono (fun y => mmRC_mono (d + 1) m' as h P P' hp (mmRC_succ d m' as h P y)) z
    rw [mmRC] at q ⊢
    intro X hX
    exact q X fun i ls st h z => hX i ls st h (mmEx_mono hK (fun _ _ y => y) (fun _ _ _ _ y => y) _ _ _ _ z)
theorem mmRC_le {d d' m : Nat} {as : List Int} {h : mmH} {P : Int → mmH → Prop} (hd : d ≤ d') (q : mmRC sh tg fc wn mp bl nl tx d m as h P) : mmRC sh tg fc wn mp bl nl tx d' m as h P := by
  obtain ⟨k, rfl⟩ := Nat.exists_eq_add_of_le hd
  induction k with
  | zero => exact q
  | succ k ih => exact mmRC_succ _ _ _ _ _ (ih (by omega))
/-- THE STEP DOWN: what the run says, the small machine says, and: the known slots stay, the other side's cells stay -/
theorem mmRC_ok (hmode : ∀ mi, (mp mi).2.2.2.2.2 ≠ 0 → (mp mi).2.2.2.1 = 0 ∧ (mp mi).2.2.2.2.1 = 0) (hw0 : ∀ m, m ≠ 0 → wn m 0 = false) (hw3 : ∀ k, wn 3 k = false) (hfc : ∀ k i, (sh k).1 = 100 → fc k i = none) :
    ∀ (d mi : Nat) (as : List Int) (h : mmH) (Q : Int → mmH → Prop), (mp mi).2.2.2.2.2 ≠ 0 → mmInv fc h → mmRC sh tg fc wn mp bl nl tx d mi as h Q → mmC sh tg (fun _ _ => none) wn mp bl nl tx d mi as h (fun x h' => Q x h' ∧ mmJ fc (wn (mp mi).2.2.2.2.2) h h')
  | 0, _, _, _, _, _, _, q => q.elim
  | d + 1, mi, as, h, Q, hm, hI, q => by
    have hmc := hmode mi hm
    intro X hX
    rw [hmc.1, hmc.2] at hX
    have hJ0 : mmJ fc (wn (mp mi).2.2.2.2.2) h h := ⟨hI, fun _ _ => rfl⟩
    refine q (fun i ls st h' => mmJ fc (wn (mp mi).2.2.2.2.2) h h' → X i ls st h') (fun i ls st h' z hJ => hX i ls st h' ?_) hJ0
    refine mmEx_run (hs := h) (hw0 _ hm) rfl hfc ?_ ?_ (fun i ls st h' hJ y => y hJ) _ _ _ _ hJ z
    · intro mj as' h'' P P' hJ' hP y
      obtain ⟨y1, y2⟩ := mmG_iff.mp y
      have hmj : (mp mj).2.2.2.2.2 ≠ 0 := by
        simp only [Bool.or_eq_true] at y1
        rcases y1 with y1 | y1
        · rw [mm_beq y1]; exact hm
        · rw [mm_beq y1]; omega
      refine mmC_mono d mj as' h'' _ _ (fun x h3 z3 => hP x h3 ⟨z3.2.1, fun k hk => ?_⟩ z3.1) (mmRC_ok hmode hw0 hw3 hfc d mj as' h'' P' hmj hJ'.1 y2)
      rw [← hJ'.2 k hk]
      refine z3.2.2 k ?_
      simp only [Bool.or_eq_true] at y1
      rcases y1 with y1 | y1
      · rw [mm_beq y1]; exact hk
      · rw [mm_beq y1]; exact hw3 k
    · intro x h' hJ y
      exact ⟨Or.inl ⟨rfl, rfl⟩, y, hJ⟩
end MRd
end
section
-- ===== PART A: goes FIRST, ahead of the names: the tables' words, and 'selects' of the private methods out of them =====
/-- a private method of a class that the tables say can be made, by its rows of tables_1 -/
def lw_okq (q : MethodName × Nat) : Prop := (q.1.cls ≠ "java/lang/invoke/MethodHandle" ∧ q.1.cls ≠ "java/lang/invoke/VarHandle") ∧ Cond.instantiable q.1.cls q.2 ∈ tables_1 ∧ Cond.privateMethod q.1 ∈ tables_1 ∧ Cond.instanceMethod q.1 ∈ tables_1
theorem lw_p0 : lw_okq (⟨"TileHeel$TownText", "packOwnWords", "()V"⟩, 9) := ⟨⟨by decide +kernel, by decide +kernel⟩, List.mem_of_getElem? (i := 24) (by decide +kernel), List.mem_of_getElem? (i := 166) (by decide +kernel), List.mem_of_getElem? (i := 167) (by decide +kernel)⟩
theorem lw_p1 : lw_okq (⟨"TileHeel", "feedNumber", "(I)V"⟩, 12) := ⟨⟨by decide +kernel, by decide +kernel⟩, List.mem_of_getElem? (i := 16) (by decide +kernel), List.mem_of_getElem? (i := 382) (by decide +kernel), List.mem_of_getElem? (i := 383) (by decide +kernel)⟩
theorem lw_p2 : lw_okq (⟨"TileHeel$TownText", "skipBlanks", "()V"⟩, 9) := ⟨⟨by decide +kernel, by decide +kernel⟩, List.mem_of_getElem? (i := 24) (by decide +kernel), List.mem_of_getElem? (i := 406) (by decide +kernel), List.mem_of_getElem? (i := 407) (by decide +kernel)⟩
theorem lw_p3 : lw_okq (⟨"TileHeel$TownText", "wordHere", "()I"⟩, 9) := ⟨⟨by decide +kernel, by decide +kernel⟩, List.mem_of_getElem? (i := 24) (by decide +kernel), List.mem_of_getElem? (i := 414) (by decide +kernel), List.mem_of_getElem? (i := 415) (by decide +kernel)⟩
theorem lw_p4 : lw_okq (⟨"TileHeel$TownText", "lettersEnd", "()I"⟩, 9) := ⟨⟨by decide +kernel, by decide +kernel⟩, List.mem_of_getElem? (i := 24) (by decide +kernel), List.mem_of_getElem? (i := 418) (by decide +kernel), List.mem_of_getElem? (i := 419) (by decide +kernel)⟩
theorem lw_p5 : lw_okq (⟨"TileHeel$TownText", "sticks", "()Z"⟩, 9) := ⟨⟨by decide +kernel, by decide +kernel⟩, List.mem_of_getElem? (i := 24) (by decide +kernel), List.mem_of_getElem? (i := 422) (by decide +kernel), List.mem_of_getElem? (i := 423) (by decide +kernel)⟩
theorem lw_p6 : lw_okq (⟨"TileHeel$TownText", "packed", "(II)I"⟩, 9) := ⟨⟨by decide +kernel, by decide +kernel⟩, List.mem_of_getElem? (i := 24) (by decide +kernel), List.mem_of_getElem? (i := 426) (by decide +kernel), List.mem_of_getElem? (i := 427) (by decide +kernel)⟩
theorem lw_p7 : lw_okq (⟨"TileHeel$TownText", "readOwner", "()V"⟩, 9) := ⟨⟨by decide +kernel, by decide +kernel⟩, List.mem_of_getElem? (i := 24) (by decide +kernel), List.mem_of_getElem? (i := 430) (by decide +kernel), List.mem_of_getElem? (i := 431) (by decide +kernel)⟩
theorem lw_p8 : lw_okq (⟨"TileHeel$TownText", "beginOneOf", "(II)V"⟩, 9) := ⟨⟨by decide +kernel, by decide +kernel⟩, List.mem_of_getElem? (i := 24) (by decide +kernel), List.mem_of_getElem? (i := 434) (by decide +kernel), List.mem_of_getElem? (i := 435) (by decide +kernel)⟩
theorem lw_p9 : lw_okq (⟨"TileHeel$TownText", "fail", "(II)V"⟩, 9) := ⟨⟨by decide +kernel, by decide +kernel⟩, List.mem_of_getElem? (i := 24) (by decide +kernel), List.mem_of_getElem? (i := 438) (by decide +kernel), List.mem_of_getElem? (i := 439) (by decide +kernel)⟩
theorem lw_p10 : lw_okq (⟨"TileHeel$TownText", "passWord", "()V"⟩, 9) := ⟨⟨by decide +kernel, by decide +kernel⟩, List.mem_of_getElem? (i := 24) (by decide +kernel), List.mem_of_getElem? (i := 442) (by decide +kernel), List.mem_of_getElem? (i := 443) (by decide +kernel)⟩
theorem lw_p11 : lw_okq (⟨"TileHeel$TownText", "newName", "()I"⟩, 9) := ⟨⟨by decide +kernel, by decide +kernel⟩, List.mem_of_getElem? (i := 24) (by decide +kernel), List.mem_of_getElem? (i := 446) (by decide +kernel), List.mem_of_getElem? (i := 447) (by decide +kernel)⟩
theorem lw_p12 : lw_okq (⟨"TileHeel$TownText", "name", "()I"⟩, 9) := ⟨⟨by decide +kernel, by decide +kernel⟩, List.mem_of_getElem? (i := 24) (by decide +kernel), List.mem_of_getElem? (i := 450) (by decide +kernel), List.mem_of_getElem? (i := 451) (by decide +kernel)⟩
theorem lw_p13 : lw_okq (⟨"TileHeel$TownText", "refuseNameIf", "(Z)V"⟩, 9) := ⟨⟨by decide +kernel, by decide +kernel⟩, List.mem_of_getElem? (i := 24) (by decide +kernel), List.mem_of_getElem? (i := 469) (by decide +kernel), List.mem_of_getElem? (i := 470) (by decide +kernel)⟩
theorem lw_p14 : lw_okq (⟨"TileHeel$TownText", "readLot", "()V"⟩, 9) := ⟨⟨by decide +kernel, by decide +kernel⟩, List.mem_of_getElem? (i := 24) (by decide +kernel), List.mem_of_getElem? (i := 477) (by decide +kernel), List.mem_of_getElem? (i := 478) (by decide +kernel)⟩
theorem lw_p15 : lw_okq (⟨"TileHeel$TownText", "takeWord", "(I)V"⟩, 9) := ⟨⟨by decide +kernel, by decide +kernel⟩, List.mem_of_getElem? (i := 24) (by decide +kernel), List.mem_of_getElem? (i := 481) (by decide +kernel), List.mem_of_getElem? (i := 482) (by decide +kernel)⟩
def lw_privs_1 : List (MethodName × Nat) := [(⟨"TileHeel$TownText", "packOwnWords", "()V"⟩, 9), (⟨"TileHeel", "feedNumber", "(I)V"⟩, 12), (⟨"TileHeel$TownText", "skipBlanks", "()V"⟩, 9), (⟨"TileHeel$TownText", "wordHere", "()I"⟩, 9), (⟨"TileHeel$TownText", "lettersEnd", "()I"⟩, 9), (⟨"TileHeel$TownText", "sticks", "()Z"⟩, 9), (⟨"TileHeel$TownText", "packed", "(II)I"⟩, 9), (⟨"TileHeel$TownText", "readOwner", "()V"⟩, 9), (⟨"TileHeel$TownText", "beginOneOf", "(II)V"⟩, 9), (⟨"TileHeel$TownText", "fail", "(II)V"⟩, 9), (⟨"TileHeel$TownText", "passWord", "()V"⟩, 9), (⟨"TileHeel$TownText", "newName", "()I"⟩, 9), (⟨"TileHeel$TownText", "name", "()I"⟩, 9), (⟨"TileHeel$TownText", "refuseNameIf", "(Z)V"⟩, 9), (⟨"TileHeel$TownText", "readLot", "()V"⟩, 9), (⟨"TileHeel$TownText", "takeWord", "(I)V"⟩, 9)]
theorem lw_r1 : ∀ q ∈ lw_privs_1, lw_okq q := List.forall_mem_cons.mpr ⟨lw_p0, List.forall_mem_cons.mpr ⟨lw_p1, List.forall_mem_cons.mpr ⟨lw_p2, List.forall_mem_cons.mpr ⟨lw_p3, List.forall_mem_cons.mpr ⟨lw_p4, List.forall_mem_cons.mpr ⟨lw_p5, List.forall_mem_cons.mpr ⟨lw_p6, List.forall_mem_cons.mpr ⟨lw_p7, List.forall_mem_cons.mpr ⟨lw_p8, List.forall_mem_cons.mpr ⟨lw_p9, List.forall_mem_cons.mpr ⟨lw_p10, List.forall_mem_cons.mpr ⟨lw_p11, List.forall_mem_cons.mpr ⟨lw_p12, List.forall_mem_cons.mpr ⟨lw_p13, List.forall_mem_cons.mpr ⟨lw_p14, List.forall_mem_cons.mpr ⟨lw_p15, fun _ h => absurd h List.not_mem_nil⟩⟩⟩⟩⟩⟩⟩⟩⟩⟩⟩⟩⟩⟩⟩⟩
theorem lw_p16 : lw_okq (⟨"TileHeel$TownText", "ownerByName", "()I"⟩, 9) := ⟨⟨by decide +kernel, by decide +kernel⟩, List.mem_of_getElem? (i := 24) (by decide +kernel), List.mem_of_getElem? (i := 485) (by decide +kernel), List.mem_of_getElem? (i := 486) (by decide +kernel)⟩
theorem lw_p17 : lw_okq (⟨"TileHeel$TownText", "number", "(II)I"⟩, 9) := ⟨⟨by decide +kernel, by decide +kernel⟩, List.mem_of_getElem? (i := 24) (by decide +kernel), List.mem_of_getElem? (i := 490) (by decide +kernel), List.mem_of_getElem? (i := 491) (by decide +kernel)⟩
theorem lw_p18 : lw_okq (⟨"TileHeel$TownText", "here", "()I"⟩, 9) := ⟨⟨by decide +kernel, by decide +kernel⟩, List.mem_of_getElem? (i := 24) (by decide +kernel), List.mem_of_getElem? (i := 494) (by decide +kernel), List.mem_of_getElem? (i := 495) (by decide +kernel)⟩
theorem lw_p19 : lw_okq (⟨"TileHeel$TownText", "readInn", "()V"⟩, 9) := ⟨⟨by decide +kernel, by decide +kernel⟩, List.mem_of_getElem? (i := 24) (by decide +kernel), List.mem_of_getElem? (i := 505) (by decide +kernel), List.mem_of_getElem? (i := 506) (by decide +kernel)⟩
theorem lw_p20 : lw_okq (⟨"TileHeel$TownText", "lotByName", "()I"⟩, 9) := ⟨⟨by decide +kernel, by decide +kernel⟩, List.mem_of_getElem? (i := 24) (by decide +kernel), List.mem_of_getElem? (i := 509) (by decide +kernel), List.mem_of_getElem? (i := 510) (by decide +kernel)⟩
theorem lw_p21 : lw_okq (⟨"TileHeel$TownText", "readStork", "()V"⟩, 9) := ⟨⟨by decide +kernel, by decide +kernel⟩, List.mem_of_getElem? (i := 24) (by decide +kernel), List.mem_of_getElem? (i := 518) (by decide +kernel), List.mem_of_getElem? (i := 519) (by decide +kernel)⟩
theorem lw_p22 : lw_okq (⟨"TileHeel$TownText", "readGap", "()V"⟩, 9) := ⟨⟨by decide +kernel, by decide +kernel⟩, List.mem_of_getElem? (i := 24) (by decide +kernel), List.mem_of_getElem? (i := 522) (by decide +kernel), List.mem_of_getElem? (i := 523) (by decide +kernel)⟩
theorem lw_p23 : lw_okq (⟨"TileHeel$TownText", "readPerson", "()V"⟩, 9) := ⟨⟨by decide +kernel, by decide +kernel⟩, List.mem_of_getElem? (i := 24) (by decide +kernel), List.mem_of_getElem? (i := 535) (by decide +kernel), List.mem_of_getElem? (i := 536) (by decide +kernel)⟩
theorem lw_p24 : lw_okq (⟨"TileHeel$TownText", "readLaw", "(Z)V"⟩, 9) := ⟨⟨by decide +kernel, by decide +kernel⟩, List.mem_of_getElem? (i := 24) (by decide +kernel), List.mem_of_getElem? (i := 548) (by decide +kernel), List.mem_of_getElem? (i := 549) (by decide +kernel)⟩
theorem lw_p25 : lw_okq (⟨"TileHeel$TownText", "sum", "(I)V"⟩, 9) := ⟨⟨by decide +kernel, by decide +kernel⟩, List.mem_of_getElem? (i := 24) (by decide +kernel), List.mem_of_getElem? (i := 552) (by decide +kernel), List.mem_of_getElem? (i := 553) (by decide +kernel)⟩
theorem lw_p26 : lw_okq (⟨"TileHeel$TownText", "product", "(I)V"⟩, 9) := ⟨⟨by decide +kernel, by decide +kernel⟩, List.mem_of_getElem? (i := 24) (by decide +kernel), List.mem_of_getElem? (i := 556) (by decide +kernel), List.mem_of_getElem? (i := 557) (by decide +kernel)⟩
theorem lw_p27 : lw_okq (⟨"TileHeel$TownText", "part", "(I)V"⟩, 9) := ⟨⟨by decide +kernel, by decide +kernel⟩, List.mem_of_getElem? (i := 24) (by decide +kernel), List.mem_of_getElem? (i := 560) (by decide +kernel), List.mem_of_getElem? (i := 561) (by decide +kernel)⟩
theorem lw_p28 : lw_okq (⟨"TileHeel$TownText", "mayOpen", "(I)Z"⟩, 9) := ⟨⟨by decide +kernel, by decide +kernel⟩, List.mem_of_getElem? (i := 24) (by decide +kernel), List.mem_of_getElem? (i := 568) (by decide +kernel), List.mem_of_getElem? (i := 569) (by decide +kernel)⟩
theorem lw_p29 : lw_okq (⟨"TileHeel$TownText", "takeSign", "(C)V"⟩, 9) := ⟨⟨by decide +kernel, by decide +kernel⟩, List.mem_of_getElem? (i := 24) (by decide +kernel), List.mem_of_getElem? (i := 572) (by decide +kernel), List.mem_of_getElem? (i := 573) (by decide +kernel)⟩
theorem lw_p30 : lw_okq (⟨"TileHeel$TownText", "pair", "(I)V"⟩, 9) := ⟨⟨by decide +kernel, by decide +kernel⟩, List.mem_of_getElem? (i := 24) (by decide +kernel), List.mem_of_getElem? (i := 576) (by decide +kernel), List.mem_of_getElem? (i := 577) (by decide +kernel)⟩
theorem lw_p31 : lw_okq (⟨"TileHeel$TownText", "isHere", "(CC)Z"⟩, 9) := ⟨⟨by decide +kernel, by decide +kernel⟩, List.mem_of_getElem? (i := 24) (by decide +kernel), List.mem_of_getElem? (i := 583) (by decide +kernel), List.mem_of_getElem? (i := 584) (by decide +kernel)⟩
def lw_privs_2 : List (MethodName × Nat) := [(⟨"TileHeel$TownText", "ownerByName", "()I"⟩, 9), (⟨"TileHeel$TownText", "number", "(II)I"⟩, 9), (⟨"TileHeel$TownText", "here", "()I"⟩, 9), (⟨"TileHeel$TownText", "readInn", "()V"⟩, 9), (⟨"TileHeel$TownText", "lotByName", "()I"⟩, 9), (⟨"TileHeel$TownText", "readStork", "()V"⟩, 9), (⟨"TileHeel$TownText", "readGap", "()V"⟩, 9), (⟨"TileHeel$TownText", "readPerson", "()V"⟩, 9), (⟨"TileHeel$TownText", "readLaw", "(Z)V"⟩, 9), (⟨"TileHeel$TownText", "sum", "(I)V"⟩, 9), (⟨"TileHeel$TownText", "product", "(I)V"⟩, 9), (⟨"TileHeel$TownText", "part", "(I)V"⟩, 9), (⟨"TileHeel$TownText", "mayOpen", "(I)Z"⟩, 9), (⟨"TileHeel$TownText", "takeSign", "(C)V"⟩, 9), (⟨"TileHeel$TownText", "pair", "(I)V"⟩, 9), (⟨"TileHeel$TownText", "isHere", "(CC)Z"⟩, 9)]
theorem lw_r2 : ∀ q ∈ lw_privs_2, lw_okq q := List.forall_mem_cons.mpr ⟨lw_p16, List.forall_mem_cons.mpr ⟨lw_p17, List.forall_mem_cons.mpr ⟨lw_p18, List.forall_mem_cons.mpr ⟨lw_p19, List.forall_mem_cons.mpr ⟨lw_p20, List.forall_mem_cons.mpr ⟨lw_p21, List.forall_mem_cons.mpr ⟨lw_p22, List.forall_mem_cons.mpr ⟨lw_p23, List.forall_mem_cons.mpr ⟨lw_p24, List.forall_mem_cons.mpr ⟨lw_p25, List.forall_mem_cons.mpr ⟨lw_p26, List.forall_mem_cons.mpr ⟨lw_p27, List.forall_mem_cons.mpr ⟨lw_p28, List.forall_mem_cons.mpr ⟨lw_p29, List.forall_mem_cons.mpr ⟨lw_p30, List.forall_mem_cons.mpr ⟨lw_p31, fun _ h => absurd h List.not_mem_nil⟩⟩⟩⟩⟩⟩⟩⟩⟩⟩⟩⟩⟩⟩⟩⟩
theorem lw_p32 : lw_okq (⟨"TileHeel$TownText", "test", "(I)V"⟩, 9) := ⟨⟨by decide +kernel, by decide +kernel⟩, List.mem_of_getElem? (i := 24) (by decide +kernel), List.mem_of_getElem? (i := 587) (by decide +kernel), List.mem_of_getElem? (i := 588) (by decide +kernel)⟩
theorem lw_p33 : lw_okq (⟨"TileHeel$TownText", "both", "(I)V"⟩, 9) := ⟨⟨by decide +kernel, by decide +kernel⟩, List.mem_of_getElem? (i := 24) (by decide +kernel), List.mem_of_getElem? (i := 591) (by decide +kernel), List.mem_of_getElem? (i := 592) (by decide +kernel)⟩
theorem lw_p34 : lw_okq (⟨"TileHeel$TownText", "fact", "(I)V"⟩, 9) := ⟨⟨by decide +kernel, by decide +kernel⟩, List.mem_of_getElem? (i := 24) (by decide +kernel), List.mem_of_getElem? (i := 595) (by decide +kernel), List.mem_of_getElem? (i := 596) (by decide +kernel)⟩
theorem lw_p35 : lw_okq (⟨"TileHeel$TownText", "comparison", "(I)V"⟩, 9) := ⟨⟨by decide +kernel, by decide +kernel⟩, List.mem_of_getElem? (i := 24) (by decide +kernel), List.mem_of_getElem? (i := 599) (by decide +kernel), List.mem_of_getElem? (i := 600) (by decide +kernel)⟩
theorem lw_p36 : lw_okq (⟨"TileHeel", "guests", "(I)I"⟩, 12) := ⟨⟨by decide +kernel, by decide +kernel⟩, List.mem_of_getElem? (i := 16) (by decide +kernel), List.mem_of_getElem? (i := 663) (by decide +kernel), List.mem_of_getElem? (i := 664) (by decide +kernel)⟩
theorem lw_p37 : lw_okq (⟨"TileHeel", "isFull", "(I)Z"⟩, 12) := ⟨⟨by decide +kernel, by decide +kernel⟩, List.mem_of_getElem? (i := 16) (by decide +kernel), List.mem_of_getElem? (i := 667) (by decide +kernel), List.mem_of_getElem? (i := 668) (by decide +kernel)⟩
theorem lw_p38 : lw_okq (⟨"TileHeel$Laws", "valueOf", "(II)I"⟩, 13) := ⟨⟨by decide +kernel, by decide +kernel⟩, List.mem_of_getElem? (i := 38) (by decide +kernel), List.mem_of_getElem? (i := 709) (by decide +kernel), List.mem_of_getElem? (i := 710) (by decide +kernel)⟩
theorem lw_p39 : lw_okq (⟨"TileHeel$Laws", "single", "(I)I"⟩, 13) := ⟨⟨by decide +kernel, by decide +kernel⟩, List.mem_of_getElem? (i := 38) (by decide +kernel), List.mem_of_getElem? (i := 730) (by decide +kernel), List.mem_of_getElem? (i := 731) (by decide +kernel)⟩
theorem lw_p40 : lw_okq (⟨"TileHeel", "findsWay", "(I)Z"⟩, 12) := ⟨⟨by decide +kernel, by decide +kernel⟩, List.mem_of_getElem? (i := 16) (by decide +kernel), List.mem_of_getElem? (i := 754) (by decide +kernel), List.mem_of_getElem? (i := 755) (by decide +kernel)⟩
theorem lw_p41 : lw_okq (⟨"TileHeel$Walk", "measureRest", "()V"⟩, 10) := ⟨⟨by decide +kernel, by decide +kernel⟩, List.mem_of_getElem? (i := 298) (by decide +kernel), List.mem_of_getElem? (i := 762) (by decide +kernel), List.mem_of_getElem? (i := 763) (by decide +kernel)⟩
theorem lw_p42 : lw_okq (⟨"TileHeel$Walk", "restBy", "(II)I"⟩, 10) := ⟨⟨by decide +kernel, by decide +kernel⟩, List.mem_of_getElem? (i := 298) (by decide +kernel), List.mem_of_getElem? (i := 767) (by decide +kernel), List.mem_of_getElem? (i := 768) (by decide +kernel)⟩
theorem lw_p43 : lw_okq (⟨"TileHeel$Walk", "nextFrom", "(I)I"⟩, 10) := ⟨⟨by decide +kernel, by decide +kernel⟩, List.mem_of_getElem? (i := 298) (by decide +kernel), List.mem_of_getElem? (i := 771) (by decide +kernel), List.mem_of_getElem? (i := 772) (by decide +kernel)⟩
theorem lw_p44 : lw_okq (⟨"TileHeel", "keepForUndo", "()V"⟩, 12) := ⟨⟨by decide +kernel, by decide +kernel⟩, List.mem_of_getElem? (i := 16) (by decide +kernel), List.mem_of_getElem? (i := 798) (by decide +kernel), List.mem_of_getElem? (i := 799) (by decide +kernel)⟩
theorem lw_p45 : lw_okq (⟨"TileHeel", "goFoundWay", "(I)I"⟩, 12) := ⟨⟨by decide +kernel, by decide +kernel⟩, List.mem_of_getElem? (i := 16) (by decide +kernel), List.mem_of_getElem? (i := 810) (by decide +kernel), List.mem_of_getElem? (i := 811) (by decide +kernel)⟩
theorem lw_p46 : lw_okq (⟨"TileHeel", "breaksAt", "(II)Z"⟩, 12) := ⟨⟨by decide +kernel, by decide +kernel⟩, List.mem_of_getElem? (i := 16) (by decide +kernel), List.mem_of_getElem? (i := 814) (by decide +kernel), List.mem_of_getElem? (i := 815) (by decide +kernel)⟩
theorem lw_p47 : lw_okq (⟨"TileHeel$Roofs", "forgetOldestLed", "()V"⟩, 8) := ⟨⟨by decide +kernel, by decide +kernel⟩, List.mem_of_getElem? (i := 252) (by decide +kernel), List.mem_of_getElem? (i := 822) (by decide +kernel), List.mem_of_getElem? (i := 823) (by decide +kernel)⟩
def lw_privs_3 : List (MethodName × Nat) := [(⟨"TileHeel$TownText", "test", "(I)V"⟩, 9), (⟨"TileHeel$TownText", "both", "(I)V"⟩, 9), (⟨"TileHeel$TownText", "fact", "(I)V"⟩, 9), (⟨"TileHeel$TownText", "comparison", "(I)V"⟩, 9), (⟨"TileHeel", "guests", "(I)I"⟩, 12), (⟨"TileHeel", "isFull", "(I)Z"⟩, 12), (⟨"TileHeel$Laws", "valueOf", "(II)I"⟩, 13), (⟨"TileHeel$Laws", "single", "(I)I"⟩, 13), (⟨"TileHeel", "findsWay", "(I)Z"⟩, 12), (⟨"TileHeel$Walk", "measureRest", "()V"⟩, 10), (⟨"TileHeel$Walk", "restBy", "(II)I"⟩, 10), (⟨"TileHeel$Walk", "nextFrom", "(I)I"⟩, 10), (⟨"TileHeel", "keepForUndo", "()V"⟩, 12), (⟨"TileHeel", "goFoundWay", "(I)I"⟩, 12), (⟨"TileHeel", "breaksAt", "(II)Z"⟩, 12), (⟨"TileHeel$Roofs", "forgetOldestLed", "()V"⟩, 8)]
theorem lw_r3 : ∀ q ∈ lw_privs_3, lw_okq q := List.forall_mem_cons.mpr ⟨lw_p32, List.forall_mem_cons.mpr ⟨lw_p33, List.forall_mem_cons.mpr ⟨lw_p34, List.forall_mem_cons.mpr ⟨lw_p35, List.forall_mem_cons.mpr ⟨lw_p36, List.forall_mem_cons.mpr ⟨lw_p37, List.forall_mem_cons.mpr ⟨lw_p38, List.forall_mem_cons.mpr ⟨lw_p39, List.forall_mem_cons.mpr ⟨lw_p40, List.forall_mem_cons.mpr ⟨lw_p41, List.forall_mem_cons.mpr ⟨lw_p42, List.forall_mem_cons.mpr ⟨lw_p43, List.forall_mem_cons.mpr ⟨lw_p44, List.forall_mem_cons.mpr ⟨lw_p45, List.forall_mem_cons.mpr ⟨lw_p46, List.forall_mem_cons.mpr ⟨lw_p47, fun _ h => absurd h List.not_mem_nil⟩⟩⟩⟩⟩⟩⟩⟩⟩⟩⟩⟩⟩⟩⟩⟩
theorem lw_p48 : lw_okq (⟨"TileHeel", "draw", "(I)I"⟩, 12) := ⟨⟨by decide +kernel, by decide +kernel⟩, List.mem_of_getElem? (i := 16) (by decide +kernel), List.mem_of_getElem? (i := 834) (by decide +kernel), List.mem_of_getElem? (i := 835) (by decide +kernel)⟩
theorem lw_p49 : lw_okq (⟨"TileHeel", "letRain", "()V"⟩, 12) := ⟨⟨by decide +kernel, by decide +kernel⟩, List.mem_of_getElem? (i := 16) (by decide +kernel), List.mem_of_getElem? (i := 840) (by decide +kernel), List.mem_of_getElem? (i := 841) (by decide +kernel)⟩
theorem lw_p50 : lw_okq (⟨"TileHeel", "breakers", "(II)I"⟩, 12) := ⟨⟨by decide +kernel, by decide +kernel⟩, List.mem_of_getElem? (i := 16) (by decide +kernel), List.mem_of_getElem? (i := 905) (by decide +kernel), List.mem_of_getElem? (i := 906) (by decide +kernel)⟩
theorem lw_p51 : lw_okq (⟨"TileHeel", "shoot", "(I)V"⟩, 12) := ⟨⟨by decide +kernel, by decide +kernel⟩, List.mem_of_getElem? (i := 16) (by decide +kernel), List.mem_of_getElem? (i := 934) (by decide +kernel), List.mem_of_getElem? (i := 935) (by decide +kernel)⟩
theorem lw_p52 : lw_okq (⟨"TileHeel", "isImage", "(I)Z"⟩, 12) := ⟨⟨by decide +kernel, by decide +kernel⟩, List.mem_of_getElem? (i := 16) (by decide +kernel), List.mem_of_getElem? (i := 949) (by decide +kernel), List.mem_of_getElem? (i := 950) (by decide +kernel)⟩
theorem lw_p53 : lw_okq (⟨"TileHeelModel", "look", "()I"⟩, 72) := ⟨⟨by decide +kernel, by decide +kernel⟩, List.mem_of_getElem? (i := 961) (by decide +kernel), List.mem_of_getElem? (i := 1199) (by decide +kernel), List.mem_of_getElem? (i := 1200) (by decide +kernel)⟩
theorem lw_p54 : lw_okq (⟨"TileHeelModel", "statementTold", "()V"⟩, 72) := ⟨⟨by decide +kernel, by decide +kernel⟩, List.mem_of_getElem? (i := 961) (by decide +kernel), List.mem_of_getElem? (i := 1203) (by decide +kernel), List.mem_of_getElem? (i := 1204) (by decide +kernel)⟩
theorem lw_p55 : lw_okq (⟨"TileHeelModel", "fail", "(II)V"⟩, 72) := ⟨⟨by decide +kernel, by decide +kernel⟩, List.mem_of_getElem? (i := 961) (by decide +kernel), List.mem_of_getElem? (i := 1207) (by decide +kernel), List.mem_of_getElem? (i := 1208) (by decide +kernel)⟩
theorem lw_p56 : lw_okq (⟨"TileHeelModel", "takes", "([C)Z"⟩, 72) := ⟨⟨by decide +kernel, by decide +kernel⟩, List.mem_of_getElem? (i := 961) (by decide +kernel), List.mem_of_getElem? (i := 1211) (by decide +kernel), List.mem_of_getElem? (i := 1212) (by decide +kernel)⟩
theorem lw_p57 : lw_okq (⟨"TileHeelModel", "isHere", "([C)Z"⟩, 72) := ⟨⟨by decide +kernel, by decide +kernel⟩, List.mem_of_getElem? (i := 961) (by decide +kernel), List.mem_of_getElem? (i := 1215) (by decide +kernel), List.mem_of_getElem? (i := 1216) (by decide +kernel)⟩
theorem lw_p58 : lw_okq (⟨"TileHeelModel", "ownerTold", "(I)V"⟩, 72) := ⟨⟨by decide +kernel, by decide +kernel⟩, List.mem_of_getElem? (i := 961) (by decide +kernel), List.mem_of_getElem? (i := 1222) (by decide +kernel), List.mem_of_getElem? (i := 1223) (by decide +kernel)⟩
theorem lw_p59 : lw_okq (⟨"TileHeelModel", "isFull", "(III)Z"⟩, 72) := ⟨⟨by decide +kernel, by decide +kernel⟩, List.mem_of_getElem? (i := 961) (by decide +kernel), List.mem_of_getElem? (i := 1226) (by decide +kernel), List.mem_of_getElem? (i := 1227) (by decide +kernel)⟩
theorem lw_p60 : lw_okq (⟨"TileHeelModel", "newName", "()J"⟩, 72) := ⟨⟨by decide +kernel, by decide +kernel⟩, List.mem_of_getElem? (i := 961) (by decide +kernel), List.mem_of_getElem? (i := 1230) (by decide +kernel), List.mem_of_getElem? (i := 1231) (by decide +kernel)⟩
theorem lw_p61 : lw_okq (⟨"TileHeelModel", "name", "()J"⟩, 72) := ⟨⟨by decide +kernel, by decide +kernel⟩, List.mem_of_getElem? (i := 961) (by decide +kernel), List.mem_of_getElem? (i := 1234) (by decide +kernel), List.mem_of_getElem? (i := 1235) (by decide +kernel)⟩
theorem lw_p62 : lw_okq (⟨"TileHeelModel", "isOwnHere", "()Z"⟩, 72) := ⟨⟨by decide +kernel, by decide +kernel⟩, List.mem_of_getElem? (i := 961) (by decide +kernel), List.mem_of_getElem? (i := 1238) (by decide +kernel), List.mem_of_getElem? (i := 1239) (by decide +kernel)⟩
theorem lw_p63 : lw_okq (⟨"TileHeelModel", "nameOf", "(IJ)I"⟩, 72) := ⟨⟨by decide +kernel, by decide +kernel⟩, List.mem_of_getElem? (i := 961) (by decide +kernel), List.mem_of_getElem? (i := 1244) (by decide +kernel), List.mem_of_getElem? (i := 1245) (by decide +kernel)⟩
def lw_privs_4 : List (MethodName × Nat) := [(⟨"TileHeel", "draw", "(I)I"⟩, 12), (⟨"TileHeel", "letRain", "()V"⟩, 12), (⟨"TileHeel", "breakers", "(II)I"⟩, 12), (⟨"TileHeel", "shoot", "(I)V"⟩, 12), (⟨"TileHeel", "isImage", "(I)Z"⟩, 12), (⟨"TileHeelModel", "look", "()I"⟩, 72), (⟨"TileHeelModel", "statementTold", "()V"⟩, 72), (⟨"TileHeelModel", "fail", "(II)V"⟩, 72), (⟨"TileHeelModel", "takes", "([C)Z"⟩, 72), (⟨"TileHeelModel", "isHere", "([C)Z"⟩, 72), (⟨"TileHeelModel", "ownerTold", "(I)V"⟩, 72), (⟨"TileHeelModel", "isFull", "(III)Z"⟩, 72), (⟨"TileHeelModel", "newName", "()J"⟩, 72), (⟨"TileHeelModel", "name", "()J"⟩, 72), (⟨"TileHeelModel", "isOwnHere", "()Z"⟩, 72), (⟨"TileHeelModel", "nameOf", "(IJ)I"⟩, 72)]
theorem lw_r4 : ∀ q ∈ lw_privs_4, lw_okq q := List.forall_mem_cons.mpr ⟨lw_p48, List.forall_mem_cons.mpr ⟨lw_p49, List.forall_mem_cons.mpr ⟨lw_p50, List.forall_mem_cons.mpr ⟨lw_p51, List.forall_mem_cons.mpr ⟨lw_p52, List.forall_mem_cons.mpr ⟨lw_p53, List.forall_mem_cons.mpr ⟨lw_p54, List.forall_mem_cons.mpr ⟨lw_p55, List.forall_mem_cons.mpr ⟨lw_p56, List.forall_mem_cons.mpr ⟨lw_p57, List.forall_mem_cons.mpr ⟨lw_p58, List.forall_mem_cons.mpr ⟨lw_p59, List.forall_mem_cons.mpr ⟨lw_p60, List.forall_mem_cons.mpr ⟨lw_p61, List.forall_mem_cons.mpr ⟨lw_p62, List.forall_mem_cons.mpr ⟨lw_p63, fun _ h => absurd h List.not_mem_nil⟩⟩⟩⟩⟩⟩⟩⟩⟩⟩⟩⟩⟩⟩⟩⟩
theorem lw_p64 : lw_okq (⟨"TileHeelModel", "lotTold", "(I)V"⟩, 72) := ⟨⟨by decide +kernel, by decide +kernel⟩, List.mem_of_getElem? (i := 961) (by decide +kernel), List.mem_of_getElem? (i := 1248) (by decide +kernel), List.mem_of_getElem? (i := 1249) (by decide +kernel)⟩
theorem lw_p65 : lw_okq (⟨"TileHeelModel", "asks", "([C)V"⟩, 72) := ⟨⟨by decide +kernel, by decide +kernel⟩, List.mem_of_getElem? (i := 961) (by decide +kernel), List.mem_of_getElem? (i := 1252) (by decide +kernel), List.mem_of_getElem? (i := 1253) (by decide +kernel)⟩
theorem lw_p66 : lw_okq (⟨"TileHeelModel", "oneOf", "(I)I"⟩, 72) := ⟨⟨by decide +kernel, by decide +kernel⟩, List.mem_of_getElem? (i := 961) (by decide +kernel), List.mem_of_getElem? (i := 1256) (by decide +kernel), List.mem_of_getElem? (i := 1257) (by decide +kernel)⟩
theorem lw_p67 : lw_okq (⟨"TileHeelModel", "number", "(II)I"⟩, 72) := ⟨⟨by decide +kernel, by decide +kernel⟩, List.mem_of_getElem? (i := 961) (by decide +kernel), List.mem_of_getElem? (i := 1260) (by decide +kernel), List.mem_of_getElem? (i := 1261) (by decide +kernel)⟩
theorem lw_p68 : lw_okq (⟨"TileHeelModel", "innTold", "()V"⟩, 72) := ⟨⟨by decide +kernel, by decide +kernel⟩, List.mem_of_getElem? (i := 961) (by decide +kernel), List.mem_of_getElem? (i := 1270) (by decide +kernel), List.mem_of_getElem? (i := 1271) (by decide +kernel)⟩
theorem lw_p69 : lw_okq (⟨"TileHeelModel", "storkTold", "()V"⟩, 72) := ⟨⟨by decide +kernel, by decide +kernel⟩, List.mem_of_getElem? (i := 961) (by decide +kernel), List.mem_of_getElem? (i := 1274) (by decide +kernel), List.mem_of_getElem? (i := 1275) (by decide +kernel)⟩
theorem lw_p70 : lw_okq (⟨"TileHeelModel", "gapTold", "(I)V"⟩, 72) := ⟨⟨by decide +kernel, by decide +kernel⟩, List.mem_of_getElem? (i := 961) (by decide +kernel), List.mem_of_getElem? (i := 1278) (by decide +kernel), List.mem_of_getElem? (i := 1279) (by decide +kernel)⟩
theorem lw_p71 : lw_okq (⟨"TileHeelModel", "personTold", "(I)V"⟩, 72) := ⟨⟨by decide +kernel, by decide +kernel⟩, List.mem_of_getElem? (i := 961) (by decide +kernel), List.mem_of_getElem? (i := 1282) (by decide +kernel), List.mem_of_getElem? (i := 1283) (by decide +kernel)⟩
theorem lw_p72 : lw_okq (⟨"TileHeelModel", "lawTold", "(IZ)V"⟩, 72) := ⟨⟨by decide +kernel, by decide +kernel⟩, List.mem_of_getElem? (i := 961) (by decide +kernel), List.mem_of_getElem? (i := 1286) (by decide +kernel), List.mem_of_getElem? (i := 1287) (by decide +kernel)⟩
theorem lw_p73 : lw_okq (⟨"TileHeelModel", "clears", "()V"⟩, 72) := ⟨⟨by decide +kernel, by decide +kernel⟩, List.mem_of_getElem? (i := 961) (by decide +kernel), List.mem_of_getElem? (i := 1290) (by decide +kernel), List.mem_of_getElem? (i := 1291) (by decide +kernel)⟩
theorem lw_p74 : lw_okq (⟨"TileHeelModel", "sumsTold", "()V"⟩, 72) := ⟨⟨by decide +kernel, by decide +kernel⟩, List.mem_of_getElem? (i := 961) (by decide +kernel), List.mem_of_getElem? (i := 1294) (by decide +kernel), List.mem_of_getElem? (i := 1295) (by decide +kernel)⟩
theorem lw_p75 : lw_okq (⟨"TileHeelModel", "onePart", "()V"⟩, 72) := ⟨⟨by decide +kernel, by decide +kernel⟩, List.mem_of_getElem? (i := 961) (by decide +kernel), List.mem_of_getElem? (i := 1298) (by decide +kernel), List.mem_of_getElem? (i := 1299) (by decide +kernel)⟩
theorem lw_p76 : lw_okq (⟨"TileHeelModel", "opens", "(II)V"⟩, 72) := ⟨⟨by decide +kernel, by decide +kernel⟩, List.mem_of_getElem? (i := 961) (by decide +kernel), List.mem_of_getElem? (i := 1302) (by decide +kernel), List.mem_of_getElem? (i := 1303) (by decide +kernel)⟩
theorem lw_p77 : lw_okq (⟨"TileHeelModel", "asksSign", "(I)V"⟩, 72) := ⟨⟨by decide +kernel, by decide +kernel⟩, List.mem_of_getElem? (i := 961) (by decide +kernel), List.mem_of_getElem? (i := 1306) (by decide +kernel), List.mem_of_getElem? (i := 1307) (by decide +kernel)⟩
theorem lw_p78 : lw_okq (⟨"TileHeelModel", "takesSign", "(I)Z"⟩, 72) := ⟨⟨by decide +kernel, by decide +kernel⟩, List.mem_of_getElem? (i := 961) (by decide +kernel), List.mem_of_getElem? (i := 1310) (by decide +kernel), List.mem_of_getElem? (i := 1311) (by decide +kernel)⟩
theorem lw_p79 : lw_okq (⟨"TileHeelModel", "code", "(I)V"⟩, 72) := ⟨⟨by decide +kernel, by decide +kernel⟩, List.mem_of_getElem? (i := 961) (by decide +kernel), List.mem_of_getElem? (i := 1314) (by decide +kernel), List.mem_of_getElem? (i := 1315) (by decide +kernel)⟩
def lw_privs_5 : List (MethodName × Nat) := [(⟨"TileHeelModel", "lotTold", "(I)V"⟩, 72), (⟨"TileHeelModel", "asks", "([C)V"⟩, 72), (⟨"TileHeelModel", "oneOf", "(I)I"⟩, 72), (⟨"TileHeelModel", "number", "(II)I"⟩, 72), (⟨"TileHeelModel", "innTold", "()V"⟩, 72), (⟨"TileHeelModel", "storkTold", "()V"⟩, 72), (⟨"TileHeelModel", "gapTold", "(I)V"⟩, 72), (⟨"TileHeelModel", "personTold", "(I)V"⟩, 72), (⟨"TileHeelModel", "lawTold", "(IZ)V"⟩, 72), (⟨"TileHeelModel", "clears", "()V"⟩, 72), (⟨"TileHeelModel", "sumsTold", "()V"⟩, 72), (⟨"TileHeelModel", "onePart", "()V"⟩, 72), (⟨"TileHeelModel", "opens", "(II)V"⟩, 72), (⟨"TileHeelModel", "asksSign", "(I)V"⟩, 72), (⟨"TileHeelModel", "takesSign", "(I)Z"⟩, 72), (⟨"TileHeelModel", "code", "(I)V"⟩, 72)]
theorem lw_r5 : ∀ q ∈ lw_privs_5, lw_okq q := List.forall_mem_cons.mpr ⟨lw_p64, List.forall_mem_cons.mpr ⟨lw_p65, List.forall_mem_cons.mpr ⟨lw_p66, List.forall_mem_cons.mpr ⟨lw_p67, List.forall_mem_cons.mpr ⟨lw_p68, List.forall_mem_cons.mpr ⟨lw_p69, List.forall_mem_cons.mpr ⟨lw_p70, List.forall_mem_cons.mpr ⟨lw_p71, List.forall_mem_cons.mpr ⟨lw_p72, List.forall_mem_cons.mpr ⟨lw_p73, List.forall_mem_cons.mpr ⟨lw_p74, List.forall_mem_cons.mpr ⟨lw_p75, List.forall_mem_cons.mpr ⟨lw_p76, List.forall_mem_cons.mpr ⟨lw_p77, List.forall_mem_cons.mpr ⟨lw_p78, List.forall_mem_cons.mpr ⟨lw_p79, fun _ h => absurd h List.not_mem_nil⟩⟩⟩⟩⟩⟩⟩⟩⟩⟩⟩⟩⟩⟩⟩⟩
theorem lw_p80 : lw_okq (⟨"TileHeelModel", "goesOn", "()Z"⟩, 72) := ⟨⟨by decide +kernel, by decide +kernel⟩, List.mem_of_getElem? (i := 961) (by decide +kernel), List.mem_of_getElem? (i := 1318) (by decide +kernel), List.mem_of_getElem? (i := 1319) (by decide +kernel)⟩
theorem lw_p81 : lw_okq (⟨"TileHeelModel", "mark", "()I"⟩, 72) := ⟨⟨by decide +kernel, by decide +kernel⟩, List.mem_of_getElem? (i := 961) (by decide +kernel), List.mem_of_getElem? (i := 1322) (by decide +kernel), List.mem_of_getElem? (i := 1323) (by decide +kernel)⟩
theorem lw_p82 : lw_okq (⟨"TileHeelModel", "isMark", "(I)Z"⟩, 72) := ⟨⟨by decide +kernel, by decide +kernel⟩, List.mem_of_getElem? (i := 961) (by decide +kernel), List.mem_of_getElem? (i := 1326) (by decide +kernel), List.mem_of_getElem? (i := 1327) (by decide +kernel)⟩
theorem lw_p83 : lw_okq (⟨"TileHeelModel", "dropsToMark", "()V"⟩, 72) := ⟨⟨by decide +kernel, by decide +kernel⟩, List.mem_of_getElem? (i := 961) (by decide +kernel), List.mem_of_getElem? (i := 1330) (by decide +kernel), List.mem_of_getElem? (i := 1331) (by decide +kernel)⟩
theorem lw_p84 : lw_okq (⟨"TileHeelModel", "drops", "()V"⟩, 72) := ⟨⟨by decide +kernel, by decide +kernel⟩, List.mem_of_getElem? (i := 961) (by decide +kernel), List.mem_of_getElem? (i := 1334) (by decide +kernel), List.mem_of_getElem? (i := 1335) (by decide +kernel)⟩
theorem lw_p85 : lw_okq (⟨"TileHeelModel", "isOn", "(I)Z"⟩, 72) := ⟨⟨by decide +kernel, by decide +kernel⟩, List.mem_of_getElem? (i := 961) (by decide +kernel), List.mem_of_getElem? (i := 1338) (by decide +kernel), List.mem_of_getElem? (i := 1339) (by decide +kernel)⟩
theorem lw_p86 : lw_okq (⟨"TileHeelModel", "test", "()V"⟩, 72) := ⟨⟨by decide +kernel, by decide +kernel⟩, List.mem_of_getElem? (i := 961) (by decide +kernel), List.mem_of_getElem? (i := 1342) (by decide +kernel), List.mem_of_getElem? (i := 1343) (by decide +kernel)⟩
theorem lw_p87 : lw_okq (⟨"TileHeelModel", "fact", "()V"⟩, 72) := ⟨⟨by decide +kernel, by decide +kernel⟩, List.mem_of_getElem? (i := 961) (by decide +kernel), List.mem_of_getElem? (i := 1346) (by decide +kernel), List.mem_of_getElem? (i := 1347) (by decide +kernel)⟩
theorem lw_p88 : lw_okq (⟨"TileHeelModel", "dropsNots", "()V"⟩, 72) := ⟨⟨by decide +kernel, by decide +kernel⟩, List.mem_of_getElem? (i := 961) (by decide +kernel), List.mem_of_getElem? (i := 1350) (by decide +kernel), List.mem_of_getElem? (i := 1351) (by decide +kernel)⟩
theorem lw_p89 : lw_okq (⟨"TileHeelModel", "goesOnTest", "()Z"⟩, 72) := ⟨⟨by decide +kernel, by decide +kernel⟩, List.mem_of_getElem? (i := 961) (by decide +kernel), List.mem_of_getElem? (i := 1354) (by decide +kernel), List.mem_of_getElem? (i := 1355) (by decide +kernel)⟩
theorem lw_p90 : lw_okq (⟨"TileHeelModel", "hasSquare", "()Z"⟩, 72) := ⟨⟨by decide +kernel, by decide +kernel⟩, List.mem_of_getElem? (i := 961) (by decide +kernel), List.mem_of_getElem? (i := 1358) (by decide +kernel), List.mem_of_getElem? (i := 1359) (by decide +kernel)⟩
theorem lw_p91 : lw_okq (⟨"TileHeelModel", "stands", "()V"⟩, 72) := ⟨⟨by decide +kernel, by decide +kernel⟩, List.mem_of_getElem? (i := 961) (by decide +kernel), List.mem_of_getElem? (i := 1362) (by decide +kernel), List.mem_of_getElem? (i := 1363) (by decide +kernel)⟩
theorem lw_p92 : lw_okq (⟨"TileHeelModel", "ownerMany", "()I"⟩, 72) := ⟨⟨by decide +kernel, by decide +kernel⟩, List.mem_of_getElem? (i := 961) (by decide +kernel), List.mem_of_getElem? (i := 1374) (by decide +kernel), List.mem_of_getElem? (i := 1375) (by decide +kernel)⟩
theorem lw_p93 : lw_okq (⟨"TileHeelModel", "lotMany", "()I"⟩, 72) := ⟨⟨by decide +kernel, by decide +kernel⟩, List.mem_of_getElem? (i := 961) (by decide +kernel), List.mem_of_getElem? (i := 1378) (by decide +kernel), List.mem_of_getElem? (i := 1379) (by decide +kernel)⟩
theorem lw_p94 : lw_okq (⟨"TileHeelModel", "personMany", "()I"⟩, 72) := ⟨⟨by decide +kernel, by decide +kernel⟩, List.mem_of_getElem? (i := 961) (by decide +kernel), List.mem_of_getElem? (i := 1382) (by decide +kernel), List.mem_of_getElem? (i := 1383) (by decide +kernel)⟩
theorem lw_p95 : lw_okq (⟨"TileHeelModel", "tilesAll", "()I"⟩, 72) := ⟨⟨by decide +kernel, by decide +kernel⟩, List.mem_of_getElem? (i := 961) (by decide +kernel), List.mem_of_getElem? (i := 1386) (by decide +kernel), List.mem_of_getElem? (i := 1387) (by decide +kernel)⟩
def lw_privs_6 : List (MethodName × Nat) := [(⟨"TileHeelModel", "goesOn", "()Z"⟩, 72), (⟨"TileHeelModel", "mark", "()I"⟩, 72), (⟨"TileHeelModel", "isMark", "(I)Z"⟩, 72), (⟨"TileHeelModel", "dropsToMark", "()V"⟩, 72), (⟨"TileHeelModel", "drops", "()V"⟩, 72), (⟨"TileHeelModel", "isOn", "(I)Z"⟩, 72), (⟨"TileHeelModel", "test", "()V"⟩, 72), (⟨"TileHeelModel", "fact", "()V"⟩, 72), (⟨"TileHeelModel", "dropsNots", "()V"⟩, 72), (⟨"TileHeelModel", "goesOnTest", "()Z"⟩, 72), (⟨"TileHeelModel", "hasSquare", "()Z"⟩, 72), (⟨"TileHeelModel", "stands", "()V"⟩, 72), (⟨"TileHeelModel", "ownerMany", "()I"⟩, 72), (⟨"TileHeelModel", "lotMany", "()I"⟩, 72), (⟨"TileHeelModel", "personMany", "()I"⟩, 72), (⟨"TileHeelModel", "tilesAll", "()I"⟩, 72)]
theorem lw_r6 : ∀ q ∈ lw_privs_6, lw_okq q := List.forall_mem_cons.mpr ⟨lw_p80, List.forall_mem_cons.mpr ⟨lw_p81, List.forall_mem_cons.mpr ⟨lw_p82, List.forall_mem_cons.mpr ⟨lw_p83, List.forall_mem_cons.mpr ⟨lw_p84, List.forall_mem_cons.mpr ⟨lw_p85, List.forall_mem_cons.mpr ⟨lw_p86, List.forall_mem_cons.mpr ⟨lw_p87, List.forall_mem_cons.mpr ⟨lw_p88, List.forall_mem_cons.mpr ⟨lw_p89, List.forall_mem_cons.mpr ⟨lw_p90, List.forall_mem_cons.mpr ⟨lw_p91, List.forall_mem_cons.mpr ⟨lw_p92, List.forall_mem_cons.mpr ⟨lw_p93, List.forall_mem_cons.mpr ⟨lw_p94, List.forall_mem_cons.mpr ⟨lw_p95, fun _ h => absurd h List.not_mem_nil⟩⟩⟩⟩⟩⟩⟩⟩⟩⟩⟩⟩⟩⟩⟩⟩
theorem lw_p96 : lw_okq (⟨"TileHeelModel", "tilesOf", "(I)I"⟩, 72) := ⟨⟨by decide +kernel, by decide +kernel⟩, List.mem_of_getElem? (i := 961) (by decide +kernel), List.mem_of_getElem? (i := 1390) (by decide +kernel), List.mem_of_getElem? (i := 1391) (by decide +kernel)⟩
theorem lw_p97 : lw_okq (⟨"TileHeelModel", "holes", "()I"⟩, 72) := ⟨⟨by decide +kernel, by decide +kernel⟩, List.mem_of_getElem? (i := 961) (by decide +kernel), List.mem_of_getElem? (i := 1394) (by decide +kernel), List.mem_of_getElem? (i := 1395) (by decide +kernel)⟩
theorem lw_p98 : lw_okq (⟨"TileHeelModel", "isLot", "(I)Z"⟩, 72) := ⟨⟨by decide +kernel, by decide +kernel⟩, List.mem_of_getElem? (i := 961) (by decide +kernel), List.mem_of_getElem? (i := 1411) (by decide +kernel), List.mem_of_getElem? (i := 1412) (by decide +kernel)⟩
theorem lw_p99 : lw_okq (⟨"TileHeelModel", "ownerOf", "(I)I"⟩, 72) := ⟨⟨by decide +kernel, by decide +kernel⟩, List.mem_of_getElem? (i := 961) (by decide +kernel), List.mem_of_getElem? (i := 1415) (by decide +kernel), List.mem_of_getElem? (i := 1416) (by decide +kernel)⟩
theorem lw_p100 : lw_okq (⟨"TileHeelModel", "heightOf", "(I)I"⟩, 72) := ⟨⟨by decide +kernel, by decide +kernel⟩, List.mem_of_getElem? (i := 961) (by decide +kernel), List.mem_of_getElem? (i := 1419) (by decide +kernel), List.mem_of_getElem? (i := 1420) (by decide +kernel)⟩
theorem lw_p101 : lw_okq (⟨"TileHeelModel", "bedsOf", "(I)I"⟩, 72) := ⟨⟨by decide +kernel, by decide +kernel⟩, List.mem_of_getElem? (i := 961) (by decide +kernel), List.mem_of_getElem? (i := 1423) (by decide +kernel), List.mem_of_getElem? (i := 1424) (by decide +kernel)⟩
theorem lw_p102 : lw_okq (⟨"TileHeelModel", "hasStork", "(I)Z"⟩, 72) := ⟨⟨by decide +kernel, by decide +kernel⟩, List.mem_of_getElem? (i := 961) (by decide +kernel), List.mem_of_getElem? (i := 1427) (by decide +kernel), List.mem_of_getElem? (i := 1428) (by decide +kernel)⟩
theorem lw_p103 : lw_okq (⟨"TileHeelModel", "thereAt", "(I)I"⟩, 72) := ⟨⟨by decide +kernel, by decide +kernel⟩, List.mem_of_getElem? (i := 961) (by decide +kernel), List.mem_of_getElem? (i := 1431) (by decide +kernel), List.mem_of_getElem? (i := 1432) (by decide +kernel)⟩
theorem lw_p104 : lw_okq (⟨"TileHeelModel", "placeOf", "(I)I"⟩, 72) := ⟨⟨by decide +kernel, by decide +kernel⟩, List.mem_of_getElem? (i := 961) (by decide +kernel), List.mem_of_getElem? (i := 1435) (by decide +kernel), List.mem_of_getElem? (i := 1436) (by decide +kernel)⟩
theorem lw_p105 : lw_okq (⟨"TileHeelModel", "isPerson", "(I)Z"⟩, 72) := ⟨⟨by decide +kernel, by decide +kernel⟩, List.mem_of_getElem? (i := 961) (by decide +kernel), List.mem_of_getElem? (i := 1447) (by decide +kernel), List.mem_of_getElem? (i := 1448) (by decide +kernel)⟩
theorem lw_p106 : lw_okq (⟨"TileHeelModel", "personOf", "(II)I"⟩, 72) := ⟨⟨by decide +kernel, by decide +kernel⟩, List.mem_of_getElem? (i := 961) (by decide +kernel), List.mem_of_getElem? (i := 1451) (by decide +kernel), List.mem_of_getElem? (i := 1452) (by decide +kernel)⟩
theorem lw_p107 : lw_okq (⟨"TileHeelModel", "goalOf", "(I)I"⟩, 72) := ⟨⟨by decide +kernel, by decide +kernel⟩, List.mem_of_getElem? (i := 961) (by decide +kernel), List.mem_of_getElem? (i := 1455) (by decide +kernel), List.mem_of_getElem? (i := 1456) (by decide +kernel)⟩
theorem lw_p108 : lw_okq (⟨"TileHeelModel", "ledTo", "(I)I"⟩, 72) := ⟨⟨by decide +kernel, by decide +kernel⟩, List.mem_of_getElem? (i := 961) (by decide +kernel), List.mem_of_getElem? (i := 1459) (by decide +kernel), List.mem_of_getElem? (i := 1460) (by decide +kernel)⟩
theorem lw_p109 : lw_okq (⟨"TileHeelModel", "tollOf", "(III)I"⟩, 72) := ⟨⟨by decide +kernel, by decide +kernel⟩, List.mem_of_getElem? (i := 961) (by decide +kernel), List.mem_of_getElem? (i := 1472) (by decide +kernel), List.mem_of_getElem? (i := 1473) (by decide +kernel)⟩
theorem lw_p110 : lw_okq (⟨"TileHeelModel", "told", "(II)J"⟩, 72) := ⟨⟨by decide +kernel, by decide +kernel⟩, List.mem_of_getElem? (i := 961) (by decide +kernel), List.mem_of_getElem? (i := 1476) (by decide +kernel), List.mem_of_getElem? (i := 1477) (by decide +kernel)⟩
theorem lw_p111 : lw_okq (⟨"TileHeelModel", "puts", "(J)V"⟩, 72) := ⟨⟨by decide +kernel, by decide +kernel⟩, List.mem_of_getElem? (i := 961) (by decide +kernel), List.mem_of_getElem? (i := 1480) (by decide +kernel), List.mem_of_getElem? (i := 1481) (by decide +kernel)⟩
def lw_privs_7 : List (MethodName × Nat) := [(⟨"TileHeelModel", "tilesOf", "(I)I"⟩, 72), (⟨"TileHeelModel", "holes", "()I"⟩, 72), (⟨"TileHeelModel", "isLot", "(I)Z"⟩, 72), (⟨"TileHeelModel", "ownerOf", "(I)I"⟩, 72), (⟨"TileHeelModel", "heightOf", "(I)I"⟩, 72), (⟨"TileHeelModel", "bedsOf", "(I)I"⟩, 72), (⟨"TileHeelModel", "hasStork", "(I)Z"⟩, 72), (⟨"TileHeelModel", "thereAt", "(I)I"⟩, 72), (⟨"TileHeelModel", "placeOf", "(I)I"⟩, 72), (⟨"TileHeelModel", "isPerson", "(I)Z"⟩, 72), (⟨"TileHeelModel", "personOf", "(II)I"⟩, 72), (⟨"TileHeelModel", "goalOf", "(I)I"⟩, 72), (⟨"TileHeelModel", "ledTo", "(I)I"⟩, 72), (⟨"TileHeelModel", "tollOf", "(III)I"⟩, 72), (⟨"TileHeelModel", "told", "(II)J"⟩, 72), (⟨"TileHeelModel", "puts", "(J)V"⟩, 72)]
theorem lw_r7 : ∀ q ∈ lw_privs_7, lw_okq q := List.forall_mem_cons.mpr ⟨lw_p96, List.forall_mem_cons.mpr ⟨lw_p97, List.forall_mem_cons.mpr ⟨lw_p98, List.forall_mem_cons.mpr ⟨lw_p99, List.forall_mem_cons.mpr ⟨lw_p100, List.forall_mem_cons.mpr ⟨lw_p101, List.forall_mem_cons.mpr ⟨lw_p102, List.forall_mem_cons.mpr ⟨lw_p103, List.forall_mem_cons.mpr ⟨lw_p104, List.forall_mem_cons.mpr ⟨lw_p105, List.forall_mem_cons.mpr ⟨lw_p106, List.forall_mem_cons.mpr ⟨lw_p107, List.forall_mem_cons.mpr ⟨lw_p108, List.forall_mem_cons.mpr ⟨lw_p109, List.forall_mem_cons.mpr ⟨lw_p110, List.forall_mem_cons.mpr ⟨lw_p111, fun _ h => absurd h List.not_mem_nil⟩⟩⟩⟩⟩⟩⟩⟩⟩⟩⟩⟩⟩⟩⟩⟩
theorem lw_p112 : lw_okq (⟨"TileHeelModel", "joins", "(I)V"⟩, 72) := ⟨⟨by decide +kernel, by decide +kernel⟩, List.mem_of_getElem? (i := 961) (by decide +kernel), List.mem_of_getElem? (i := 1486) (by decide +kernel), List.mem_of_getElem? (i := 1487) (by decide +kernel)⟩
theorem lw_p113 : lw_okq (⟨"TileHeelModel", "isNear", "(III)Z"⟩, 72) := ⟨⟨by decide +kernel, by decide +kernel⟩, List.mem_of_getElem? (i := 961) (by decide +kernel), List.mem_of_getElem? (i := 1503) (by decide +kernel), List.mem_of_getElem? (i := 1504) (by decide +kernel)⟩
theorem lw_p114 : lw_okq (⟨"TileHeelModel", "hasWay", "(I)Z"⟩, 72) := ⟨⟨by decide +kernel, by decide +kernel⟩, List.mem_of_getElem? (i := 961) (by decide +kernel), List.mem_of_getElem? (i := 1511) (by decide +kernel), List.mem_of_getElem? (i := 1512) (by decide +kernel)⟩
theorem lw_p115 : lw_okq (⟨"TileHeelModel", "comes", "(IIII)V"⟩, 72) := ⟨⟨by decide +kernel, by decide +kernel⟩, List.mem_of_getElem? (i := 961) (by decide +kernel), List.mem_of_getElem? (i := 1515) (by decide +kernel), List.mem_of_getElem? (i := 1516) (by decide +kernel)⟩
theorem lw_p116 : lw_okq (⟨"TileHeelModel", "finds", "(III)Z"⟩, 72) := ⟨⟨by decide +kernel, by decide +kernel⟩, List.mem_of_getElem? (i := 961) (by decide +kernel), List.mem_of_getElem? (i := 1519) (by decide +kernel), List.mem_of_getElem? (i := 1520) (by decide +kernel)⟩
theorem lw_p117 : lw_okq (⟨"TileHeelModel", "nextOf", "(II)I"⟩, 72) := ⟨⟨by decide +kernel, by decide +kernel⟩, List.mem_of_getElem? (i := 961) (by decide +kernel), List.mem_of_getElem? (i := 1524) (by decide +kernel), List.mem_of_getElem? (i := 1525) (by decide +kernel)⟩
theorem lw_p118 : lw_okq (⟨"TileHeelModel", "keeps", "()V"⟩, 72) := ⟨⟨by decide +kernel, by decide +kernel⟩, List.mem_of_getElem? (i := 961) (by decide +kernel), List.mem_of_getElem? (i := 1540) (by decide +kernel), List.mem_of_getElem? (i := 1541) (by decide +kernel)⟩
theorem lw_p119 : lw_okq (⟨"TileHeelModel", "walks", "(I)I"⟩, 72) := ⟨⟨by decide +kernel, by decide +kernel⟩, List.mem_of_getElem? (i := 961) (by decide +kernel), List.mem_of_getElem? (i := 1544) (by decide +kernel), List.mem_of_getElem? (i := 1545) (by decide +kernel)⟩
theorem lw_p120 : lw_okq (⟨"TileHeelModel", "breaks", "(II)Z"⟩, 72) := ⟨⟨by decide +kernel, by decide +kernel⟩, List.mem_of_getElem? (i := 961) (by decide +kernel), List.mem_of_getElem? (i := 1548) (by decide +kernel), List.mem_of_getElem? (i := 1549) (by decide +kernel)⟩
theorem lw_p121 : lw_okq (⟨"TileHeelModel", "leads", "(II)V"⟩, 72) := ⟨⟨by decide +kernel, by decide +kernel⟩, List.mem_of_getElem? (i := 961) (by decide +kernel), List.mem_of_getElem? (i := 1552) (by decide +kernel), List.mem_of_getElem? (i := 1553) (by decide +kernel)⟩
theorem lw_p122 : lw_okq (⟨"TileHeelModel", "drawOf", "(I)I"⟩, 72) := ⟨⟨by decide +kernel, by decide +kernel⟩, List.mem_of_getElem? (i := 961) (by decide +kernel), List.mem_of_getElem? (i := 1564) (by decide +kernel), List.mem_of_getElem? (i := 1565) (by decide +kernel)⟩
theorem lw_p123 : lw_okq (⟨"TileHeelModel", "firesOn", "(II)I"⟩, 72) := ⟨⟨by decide +kernel, by decide +kernel⟩, List.mem_of_getElem? (i := 961) (by decide +kernel), List.mem_of_getElem? (i := 1586) (by decide +kernel), List.mem_of_getElem? (i := 1587) (by decide +kernel)⟩
theorem lw_p124 : lw_okq (⟨"TileHeelModel", "tilesBy", "(I)I"⟩, 72) := ⟨⟨by decide +kernel, by decide +kernel⟩, List.mem_of_getElem? (i := 961) (by decide +kernel), List.mem_of_getElem? (i := 1603) (by decide +kernel), List.mem_of_getElem? (i := 1604) (by decide +kernel)⟩
theorem lw_p125 : lw_okq (⟨"TileHeelModel", "comesTo", "(II)Z"⟩, 72) := ⟨⟨by decide +kernel, by decide +kernel⟩, List.mem_of_getElem? (i := 961) (by decide +kernel), List.mem_of_getElem? (i := 1616) (by decide +kernel), List.mem_of_getElem? (i := 1617) (by decide +kernel)⟩
theorem lw_p126 : lw_okq (⟨"TileHeelModel", "coinsAll", "(II)I"⟩, 72) := ⟨⟨by decide +kernel, by decide +kernel⟩, List.mem_of_getElem? (i := 961) (by decide +kernel), List.mem_of_getElem? (i := 1625) (by decide +kernel), List.mem_of_getElem? (i := 1626) (by decide +kernel)⟩
theorem lw_p127 : lw_okq (⟨"TileHeelModel", "writes", "(I)V"⟩, 72) := ⟨⟨by decide +kernel, by decide +kernel⟩, List.mem_of_getElem? (i := 961) (by decide +kernel), List.mem_of_getElem? (i := 1641) (by decide +kernel), List.mem_of_getElem? (i := 1642) (by decide +kernel)⟩
def lw_privs_8 : List (MethodName × Nat) := [(⟨"TileHeelModel", "joins", "(I)V"⟩, 72), (⟨"TileHeelModel", "isNear", "(III)Z"⟩, 72), (⟨"TileHeelModel", "hasWay", "(I)Z"⟩, 72), (⟨"TileHeelModel", "comes", "(IIII)V"⟩, 72), (⟨"TileHeelModel", "finds", "(III)Z"⟩, 72), (⟨"TileHeelModel", "nextOf", "(II)I"⟩, 72), (⟨"TileHeelModel", "keeps", "()V"⟩, 72), (⟨"TileHeelModel", "walks", "(I)I"⟩, 72), (⟨"TileHeelModel", "breaks", "(II)Z"⟩, 72), (⟨"TileHeelModel", "leads", "(II)V"⟩, 72), (⟨"TileHeelModel", "drawOf", "(I)I"⟩, 72), (⟨"TileHeelModel", "firesOn", "(II)I"⟩, 72), (⟨"TileHeelModel", "tilesBy", "(I)I"⟩, 72), (⟨"TileHeelModel", "comesTo", "(II)Z"⟩, 72), (⟨"TileHeelModel", "coinsAll", "(II)I"⟩, 72), (⟨"TileHeelModel", "writes", "(I)V"⟩, 72)]
theorem lw_r8 : ∀ q ∈ lw_privs_8, lw_okq q := List.forall_mem_cons.mpr ⟨lw_p112, List.forall_mem_cons.mpr ⟨lw_p113, List.forall_mem_cons.mpr ⟨lw_p114, List.forall_mem_cons.mpr ⟨lw_p115, List.forall_mem_cons.mpr ⟨lw_p116, List.forall_mem_cons.mpr ⟨lw_p117, List.forall_mem_cons.mpr ⟨lw_p118, List.forall_mem_cons.mpr ⟨lw_p119, List.forall_mem_cons.mpr ⟨lw_p120, List.forall_mem_cons.mpr ⟨lw_p121, List.forall_mem_cons.mpr ⟨lw_p122, List.forall_mem_cons.mpr ⟨lw_p123, List.forall_mem_cons.mpr ⟨lw_p124, List.forall_mem_cons.mpr ⟨lw_p125, List.forall_mem_cons.mpr ⟨lw_p126, List.forall_mem_cons.mpr ⟨lw_p127, fun _ h => absurd h List.not_mem_nil⟩⟩⟩⟩⟩⟩⟩⟩⟩⟩⟩⟩⟩⟩⟩⟩
theorem lw_p128 : lw_okq (⟨"TileHeelModel", "isTold", "(I)Z"⟩, 72) := ⟨⟨by decide +kernel, by decide +kernel⟩, List.mem_of_getElem? (i := 961) (by decide +kernel), List.mem_of_getElem? (i := 1656) (by decide +kernel), List.mem_of_getElem? (i := 1657) (by decide +kernel)⟩
def lw_privs_9 : List (MethodName × Nat) := [(⟨"TileHeelModel", "isTold", "(I)Z"⟩, 72)]
theorem lw_r9 : ∀ q ∈ lw_privs_9, lw_okq q := List.forall_mem_cons.mpr ⟨lw_p128, fun _ h => absurd h List.not_mem_nil⟩
def lw_privs : List (MethodName × Nat) := lw_privs_1 ++ (lw_privs_2 ++ (lw_privs_3 ++ (lw_privs_4 ++ (lw_privs_5 ++ (lw_privs_6 ++ (lw_privs_7 ++ (lw_privs_8 ++ (lw_privs_9))))))))
def lw_tbl : List Cond := k2_sels lw_privs ++ tables_1
theorem lw_privs_ok : ∀ q ∈ lw_privs, lw_okq q := by
  show ∀ q ∈ lw_privs_1 ++ (lw_privs_2 ++ (lw_privs_3 ++ (lw_privs_4 ++ (lw_privs_5 ++ (lw_privs_6 ++ (lw_privs_7 ++ (lw_privs_8 ++ (lw_privs_9)))))))), lw_okq q
  exact List.forall_mem_append.mpr ⟨lw_r1, List.forall_mem_append.mpr ⟨lw_r2, List.forall_mem_append.mpr ⟨lw_r3, List.forall_mem_append.mpr ⟨lw_r4, List.forall_mem_append.mpr ⟨lw_r5, List.forall_mem_append.mpr ⟨lw_r6, List.forall_mem_append.mpr ⟨lw_r7, List.forall_mem_append.mpr ⟨lw_r8, lw_r9⟩⟩⟩⟩⟩⟩⟩⟩
-- ===== end of PART A; then your names; then what follows =====
/-! ===== mm: this program's tables, by program ===== -/
def tbS : List (Nat × Nat) := [(99, 0), (0, 12), (100, 1600), (1, 9), (100, 0), (2, 13), (100, 5), (100, 10), (100, 6), (104, 10), (100, 5), (100, 5), (100, 5), (100, 5), (100, 5), (100, 5), (100, 5), (100, 5), (100, 5), (100, 5), (104, 6), (100, 6), (100, 6), (100, 6), (100, 6), (100, 6), (100, 6), (104, 10), (100, 10), (100, 10), (100, 10), (100, 10), (100, 10), (100, 10), (100, 10), (100, 10), (100, 10), (100, 10), (3, 13), (100, 8), (100, 8), (100, 8), (100, 8), (100, 1600), (100, 64), (100, 29), (2, 13), (100, 5), (100, 10), (100, 6), (104, 10), (100, 5), (100, 5), (100, 5), (100, 5), (100, 5), (100, 5), (100, 5), (100, 5), (100, 5), (100, 5), (104, 6), (100, 6), (100, 6), (100, 6), (100, 6), (100, 6), (100, 6), (104, 10), (100, 10), (100, 10), (100, 10), (100, 10), (100, 10), (100, 10), (100, 10), (100, 10), (100, 10), (100, 10), (3, 13), (100, 8), (100, 8), (100, 8), (100, 8), (100, 1600), (100, 64), (4, 8), (100, 10), (100, 6), (100, 6), (100, 5), (104, 3), (100, 60), (100, 60), (100, 60), (105, 20), (5, 10), (100, 10), (100, 10), (100, 10), (100, 10), (100, 46), (4, 8), (100, 10), (100, 6), (100, 6), (100, 5), (104, 3), (100, 60), (100, 60), (100, 60), (4, 8), (100, 10), (100, 6), (100, 6), (100, 5), (104, 3), (100, 60), (100, 60), (100, 60), (4, 8), (100, 10), (100, 6), (100, 6), (100, 5), (104, 3), (100, 60), (100, 60), (100, 60), (4, 8), (100, 10), (100, 6), (100, 6), (100, 5), (104, 3), (100, 60), (100, 60), (100, 60), (4, 8), (100, 10), (100, 6), (100, 6), (100, 5), (104, 3), (100, 60), (100, 60), (100, 60), (4, 8), (100, 10), (100, 6), (100, 6), (100, 5), (104, 3), (100, 60), (100, 60), (100, 60), (4, 8), (100, 10), (100, 6), (100, 6), (100, 5), (104, 3), (100, 60), (100, 60), (100, 60), (4, 8), (100, 10), (100, 6), (100, 6), (100, 5), (104, 3), (100, 60), (100, 60), (100, 60), (4, 8), (100, 10), (100, 6), (100, 6), (100, 5), (104, 3), (100, 60), (100, 60), (100, 60), (4, 8), (100, 10), (100, 6), (100, 6), (100, 5), (104, 3), (100, 60), (100, 60), (100, 60), (4, 8), (100, 10), (100, 6), (100, 6), (100, 5), (104, 3), (100, 60), (100, 60), (100, 60), (4, 8), (100, 10), (100, 6), (100, 6), (100, 5), (104, 3), (100, 60), (100, 60), (100, 60), (4, 8), (100, 10), (100, 6), (100, 6), (100, 5), (104, 3), (100, 60), (100, 60), (100, 60), (4, 8), (100, 10), (100, 6), (100, 6), (100, 5), (104, 3), (100, 60), (100, 60), (100, 60), (4, 8), (100, 10), (100, 6), (100, 6), (100, 5), (104, 3), (100, 60), (100, 60), (100, 60), (4, 8), (100, 10), (100, 6), (100, 6), (100, 5), (104, 3), (100, 60), (100, 60), (100, 60), (4, 8), (100, 10), (100, 6), (100, 6), (100, 5), (104, 3), (100, 60), (100, 60), (100, 60), (4, 8), (100, 10), (100, 6), (100, 6), (100, 5), (104, 3), (100, 60), (100, 60), (100, 60), (4, 8), (100, 10), (100, 6), (100, 6), (100, 5), (104, 3), (100, 60), (100, 60), (100, 60), (4, 8), (100, 10), (100, 6), (100, 6), (100, 5), (104, 3), (100, 60), (100, 60), (100, 60), (6, 72), (100, 1600), (102, 5), (102, 3), (102, 2), (102, 6), (102, 5), (102, 3), (102, 4), (102, 5), (102, 3), (102, 4), (102, 6), (102, 6), (102, 4), (102, 5), (102, 4), (102, 2), (102, 2), (102, 4), (102, 3), (102, 4), (102, 5), (102, 4), (102, 5), (102, 2), (102, 3), (102, 3), (102, 3), (102, 3), (102, 3), (100, 10), (101, 60), (100, 100), (100, 200), (100, 72), (100, 2), (100, 2), (100, 16), (100, 16), (100, 3200), (100, 1700), (100, 16), (100, 16), (100, 16), (101, 1700), (100, 5), (100, 210), (103, 10), (100, 10), (100, 10), (100, 10), (100, 4200), (100, 46)]
def tSh (k : Int) : Nat × Nat := if k < 0 then (99, 0) else tbS.getD k.toNat (99, 0)
def tNm : Nat → String := fun i => ["TileHeel", "TileHeel$TownText", "TileHeel$Town", "TileHeel$Laws", "TileHeel$Roofs", "TileHeel$Walk", "TileHeelModel", "TileHeelLaw", "java/lang/Integer", "java/lang/Math"].getD i ""
def tF0 : List (String × String × String × Bool) := [("TileHeel", "tape", "[I", true), ("TileHeel", "tapeLength", "I", false), ("TileHeel", "text", "LTileHeel$TownText;", true), ("TileHeel", "told", "LTileHeel$Town;", false), ("TileHeel", "now", "LTileHeel$Roofs;", true), ("TileHeel", "past", "[LTileHeel$Roofs;", true), ("TileHeel", "pastNext", "I", false), ("TileHeel", "acts", "I", false), ("TileHeel", "seedNow", "I", false), ("TileHeel", "walk", "LTileHeel$Walk;", true), ("TileHeel", "shot", "[I", true), ("TileHeel", "shotLength", "I", false)]
def tF1 : List (String × String × String × Bool) := [("TileHeel$TownText", "faulty", "I", false), ("TileHeel$TownText", "place", "I", false), ("TileHeel$TownText", "bytes", "[I", false), ("TileHeel$TownText", "length", "I", false), ("TileHeel$TownText", "at", "I", false), ("TileHeel$TownText", "nameAt", "I", false), ("TileHeel$TownText", "wordyEnd", "I", false), ("TileHeel$TownText", "town", "LTileHeel$Town;", false), ("TileHeel$TownText", "ownWords", "[I", true)]
def tF2 : List (String × String × String × Bool) := [("TileHeel$Town", "owners", "I", false), ("TileHeel$Town", "lots", "I", false), ("TileHeel$Town", "gaps", "I", false), ("TileHeel$Town", "persons", "I", false), ("TileHeel$Town", "carry", "I", false), ("TileHeel$Town", "rain", "I", false), ("TileHeel$Town", "ownerNames", "[I", true), ("TileHeel$Town", "lotNames", "[I", true), ("TileHeel$Town", "personNames", "[I", true), ("TileHeel$Town", "lotRows", "[[I", true), ("TileHeel$Town", "personRows", "[[I", true), ("TileHeel$Town", "wides", "[[I", true), ("TileHeel$Town", "laws", "LTileHeel$Laws;", true)]
def tF3 : List (String × String × String × Bool) := [("TileHeel$Laws", "count", "I", false), ("TileHeel$Laws", "length", "I", false), ("TileHeel$Laws", "owners", "[I", true), ("TileHeel$Laws", "sumsFrom", "[I", true), ("TileHeel$Laws", "testsFrom", "[I", true), ("TileHeel$Laws", "testsTo", "[I", true), ("TileHeel$Laws", "tokens", "[I", true), ("TileHeel$Laws", "pile", "[I", true), ("TileHeel$Laws", "weight", "I", false), ("TileHeel$Laws", "heel", "I", false), ("TileHeel$Laws", "height", "I", false), ("TileHeel$Laws", "tiles", "I", false), ("TileHeel$Laws", "night", "I", false)]
def tF4 : List (String × String × String × Bool) := [("TileHeel$Roofs", "nightNumber", "I", false), ("TileHeel$Roofs", "snowDepth", "I", false), ("TileHeel$Roofs", "ledCount", "I", false), ("TileHeel$Roofs", "tiles", "[I", true), ("TileHeel$Roofs", "at", "[I", true), ("TileHeel$Roofs", "goal", "[I", true), ("TileHeel$Roofs", "purses", "[I", true), ("TileHeel$Roofs", "led", "[[I", true)]
def tF5 : List (String × String × String × Bool) := [("TileHeel$Walk", "lots", "I", false), ("TileHeel$Walk", "start", "I", false), ("TileHeel$Walk", "last", "I", false), ("TileHeel$Walk", "open", "I", false), ("TileHeel$Walk", "coins", "I", false), ("TileHeel$Walk", "steps", "I", false), ("TileHeel$Walk", "hops", "[I", true), ("TileHeel$Walk", "tolls", "[I", true), ("TileHeel$Walk", "way", "[I", true), ("TileHeel$Walk", "rest", "[I", true)]
def tF6 : List (String × String × String × Bool) := [("TileHeelModel", "tape", "[I", true), ("TileHeelModel", "taped", "I", false), ("TileHeelModel", "at", "I", false), ("TileHeelModel", "end", "I", false), ("TileHeelModel", "ended", "I", false), ("TileHeelModel", "bad", "I", false), ("TileHeelModel", "badPlace", "I", false), ("TileHeelModel", "fault", "I", false), ("TileHeelModel", "faultPlace", "I", false), ("TileHeelModel", "ownerWord", "[C", true), ("TileHeelModel", "lotWord", "[C", true), ("TileHeelModel", "ofWord", "[C", true), ("TileHeelModel", "heightWord", "[C", true), ("TileHeelModel", "tilesWord", "[C", true), ("TileHeelModel", "innWord", "[C", true), ("TileHeelModel", "bedsWord", "[C", true), ("TileHeelModel", "storkWord", "[C", true), ("TileHeelModel", "gapWord", "[C", true), ("TileHeelModel", "wideWord", "[C", true), ("TileHeelModel", "personWord", "[C", true), ("TileHeelModel", "weightWord", "[C", true), ("TileHeelModel", "leapWord", "[C", true), ("TileHeelModel", "climbWord", "[C", true), ("TileHeelModel", "heelWord", "[C", true), ("TileHeelModel", "atWord", "[C", true), ("TileHeelModel", "toWord", "[C", true), ("TileHeelModel", "tollWord", "[C", true), ("TileHeelModel", "barWord", "[C", true), ("TileHeelModel", "whenWord", "[C", true), ("TileHeelModel", "carryWord", "[C", true), ("TileHeelModel", "rainWord", "[C", true), ("TileHeelModel", "nightWord", "[C", true), ("TileHeelModel", "orWord", "[C", true), ("TileHeelModel", "andWord", "[C", true), ("TileHeelModel", "notWord", "[C", true), ("TileHeelModel", "allWord", "[C", true), ("TileHeelModel", "minWord", "[C", true), ("TileHeelModel", "maxWord", "[C", true), ("TileHeelModel", "namePlace", "I", false), ("TileHeelModel", "many", "[I", true), ("TileHeelModel", "names", "[J", true), ("TileHeelModel", "lots", "[I", true), ("TileHeelModel", "gaps", "[I", true), ("TileHeelModel", "persons", "[I", true), ("TileHeelModel", "carryOf", "[I", true), ("TileHeelModel", "rainOf", "[I", true), ("TileHeelModel", "lawOwner", "[I", true), ("TileHeelModel", "lawBars", "[I", true), ("TileHeelModel", "statements", "I", false), ("TileHeelModel", "codes", "[I", true), ("TileHeelModel", "coded", "I", false), ("TileHeelModel", "wait", "[I", true), ("TileHeelModel", "waits", "I", false), ("TileHeelModel", "open", "I", false), ("TileHeelModel", "sumFrom", "[I", true), ("TileHeelModel", "sumEnd", "[I", true), ("TileHeelModel", "testEnd", "[I", true), ("TileHeelModel", "base", "I", false), ("TileHeelModel", "pile", "[J", true), ("TileHeelModel", "piled", "I", false), ("TileHeelModel", "ask", "[I", true), ("TileHeelModel", "now", "[I", true), ("TileHeelModel", "canCome", "[Z", true), ("TileHeelModel", "costOf", "[I", true), ("TileHeelModel", "coinsFrom", "[I", true), ("TileHeelModel", "stepsFrom", "[I", true), ("TileHeelModel", "kept", "[I", true), ("TileHeelModel", "undoable", "I", false), ("TileHeelModel", "newest", "I", false), ("TileHeelModel", "seeded", "J", false), ("TileHeelModel", "octet", "[I", true), ("TileHeelModel", "octets", "I", false)]
def tFs : List (List (String × String × String × Bool)) := [tF0, tF1, tF2, tF3, tF4, tF5, tF6]
def tFd (ci : Nat) : u_T := fun k => (tFs.getD ci []).getD k ("", "", "", false)
def tN (ci : Nat) : Nat := (tFs.getD ci []).length
def tCl : List vw_C := [(tNm 0, tFd 0, tN 0), (tNm 1, tFd 1, tN 1), (tNm 2, tFd 2, tN 2), (tNm 3, tFd 3, tN 3), (tNm 4, tFd 4, tN 4), (tNm 5, tFd 5, tN 5), (tNm 6, tFd 6, tN 6)]
def tTs : List (List Nat) := [[3, 1, 3, 3, 3, 3, 1, 1, 1, 3, 3, 1], [1, 1, 3, 1, 1, 1, 1, 3, 3], [1, 1, 1, 1, 1, 1, 3, 3, 3, 3, 3, 3, 3], [1, 1, 3, 3, 3, 3, 3, 3, 1, 1, 1, 1, 1], [1, 1, 1, 3, 3, 3, 3, 3], [1, 1, 1, 1, 1, 1, 3, 3, 3, 3], [3, 1, 1, 1, 1, 1, 1, 1, 1, 3, 3, 3, 3, 3, 3, 3, 3, 3, 3, 3, 3, 3, 3, 3, 3, 3, 3, 3, 3, 3, 3, 3, 3, 3, 3, 3, 3, 3, 1, 3, 3, 3, 3, 3, 3, 3, 3, 3, 1, 3, 1, 3, 1, 1, 3, 3, 3, 1, 3, 1, 3, 3, 3, 3, 3, 3, 3, 1, 1, 2, 3, 1]]
def tTg (ci f : Nat) : Nat := (tTs.getD ci []).getD f 0
def tFin (ci f : Nat) : Bool := (tFd ci f).2.2.2
def tNC : Int := 282
def tNT : Int := 336
def tWn : Nat → Int → Bool := fun w k => match w with
  | 0 => true
  | 1 => decide (1 ≤ k ∧ k < 282)
  | 2 => decide (282 ≤ k ∧ k < 336)
  | _ => false
def tFcL : List (List (Int × Int)) := [[], [(0, 2), (2, 3), (4, 86), (5, 95), (9, 96), (10, 101)], [], [(8, 45)], [], [(6, 6), (7, 7), (8, 8), (9, 9), (10, 20), (11, 27), (12, 38)], [], [], [], [(0, 10), (1, 11), (2, 12), (3, 13), (4, 14), (5, 15), (6, 16), (7, 17), (8, 18), (9, 19)], [], [], [], [], [], [], [], [], [], [], [(0, 21), (1, 22), (2, 23), (3, 24), (4, 25), (5, 26)], [], [], [], [], [], [], [(0, 28), (1, 29), (2, 30), (3, 31), (4, 32), (5, 33), (6, 34), (7, 35), (8, 36), (9, 37)], [], [], [], [], [], [], [], [], [], [], [(2, 39), (3, 40), (4, 41), (5, 42), (6, 43), (7, 44)], [], [], [], [], [], [], [], [(6, 47), (7, 48), (8, 49), (9, 50), (10, 61), (11, 68), (12, 79)], [], [], [], [(0, 51), (1, 52), (2, 53), (3, 54), (4, 55), (5, 56), (6, 57), (7, 58), (8, 59), (9, 60)], [], [], [], [], [], [], [], [], [], [], [(0, 62), (1, 63), (2, 64), (3, 65), (4, 66), (5, 67)], [], [], [], [], [], [], [(0, 69), (1, 70), (2, 71), (3, 72), (4, 73), (5, 74), (6, 75), (7, 76), (8, 77), (9, 78)], [], [], [], [], [], [], [], [], [], [], [(2, 80), (3, 81), (4, 82), (5, 83), (6, 84), (7, 85)], [], [], [], [], [], [], [(3, 87), (4, 88), (5, 89), (6, 90), (7, 91)], [], [], [], [], [(0, 92), (1, 93), (2, 94)], [], [], [], [(0, 102), (1, 111), (2, 120), (3, 129), (4, 138), (5, 147), (6, 156), (7, 165), (8, 174), (9, 183), (10, 192), (11, 201), (12, 210), (13, 219), (14, 228), (15, 237), (16, 246), (17, 255), (18, 264), (19, 273)], [(6, 97), (7, 98), (8, 99), (9, 100)], [], [], [], [], [], [(3, 103), (4, 104), (5, 105), (6, 106), (7, 107)], [], [], [], [], [(0, 108), (1, 109), (2, 110)], [], [], [], [(3, 112), (4, 113), (5, 114), (6, 115), (7, 116)], [], [], [], [], [(0, 117), (1, 118), (2, 119)], [], [], [], [(3, 121), (4, 122), (5, 123), (6, 124), (7, 125)], [], [], [], [], [(0, 126), (1, 127), (2, 128)], [], [], [], [(3, 130), (4, 131), (5, 132), (6, 133), (7, 134)], [], [], [], [], [(0, 135), (1, 136), (2, 137)], [], [], [], [(3, 139), (4, 140), (5, 141), (6, 142), (7, 143)], [], [], [], [], [(0, 144), (1, 145), (2, 146)], [], [], [], [(3, 148), (4, 149), (5, 150), (6, 151), (7, 152)], [], [], [], [], [(0, 153), (1, 154), (2, 155)], [], [], [], [(3, 157), (4, 158), (5, 159), (6, 160), (7, 161)], [], [], [], [], [(0, 162), (1, 163), (2, 164)], [], [], [], [(3, 166), (4, 167), (5, 168), (6, 169), (7, 170)], [], [], [], [], [(0, 171), (1, 172), (2, 173)], [], [], [], [(3, 175), (4, 176), (5, 177), (6, 178), (7, 179)], [], [], [], [], [(0, 180), (1, 181), (2, 182)], [], [], [], [(3, 184), (4, 185), (5, 186), (6, 187), (7, 188)], [], [], [], [], [(0, 189), (1, 190), (2, 191)], [], [], [], [(3, 193), (4, 194), (5, 195), (6, 196), (7, 197)], [], [], [], [], [(0, 198), (1, 199), (2, 200)], [], [], [], [(3, 202), (4, 203), (5, 204), (6, 205), (7, 206)], [], [], [], [], [(0, 207), (1, 208), (2, 209)], [], [], [], [(3, 211), (4, 212), (5, 213), (6, 214), (7, 215)], [], [], [], [], [(0, 216), (1, 217), (2, 218)], [], [], [], [(3, 220), (4, 221), (5, 222), (6, 223), (7, 224)], [], [], [], [], [(0, 225), (1, 226), (2, 227)], [], [], [], [(3, 229), (4, 230), (5, 231), (6, 232), (7, 233)], [], [], [], [], [(0, 234), (1, 235), (2, 236)], [], [], [], [(3, 238), (4, 239), (5, 240), (6, 241), (7, 242)], [], [], [], [], [(0, 243), (1, 244), (2, 245)], [], [], [], [(3, 247), (4, 248), (5, 249), (6, 250), (7, 251)], [], [], [], [], [(0, 252), (1, 253), (2, 254)], [], [], [], [(3, 256), (4, 257), (5, 258), (6, 259), (7, 260)], [], [], [], [], [(0, 261), (1, 262), (2, 263)], [], [], [], [(3, 265), (4, 266), (5, 267), (6, 268), (7, 269)], [], [], [], [], [(0, 270), (1, 271), (2, 272)], [], [], [], [(3, 274), (4, 275), (5, 276), (6, 277), (7, 278)], [], [], [], [], [(0, 279), (1, 280), (2, 281)], [], [], [], [(0, 283), (9, 284), (10, 285), (11, 286), (12, 287), (13, 288), (14, 289), (15, 290), (16, 291), (17, 292), (18, 293), (19, 294), (20, 295), (21, 296), (22, 297), (23, 298), (24, 299), (25, 300), (26, 301), (27, 302), (28, 303), (29, 304), (30, 305), (31, 306), (32, 307), (33, 308), (34, 309), (35, 310), (36, 311), (37, 312), (39, 313), (40, 314), (41, 315), (42, 316), (43, 317), (44, 318), (45, 319), (46, 320), (47, 321), (49, 322), (51, 323), (54, 324), (55, 325), (56, 326), (58, 327), (60, 328), (61, 329), (62, 330), (63, 331), (64, 332), (65, 333), (66, 334), (70, 335)], [], [], [], [], [], [], [], [], [], [], [], [], [], [], [], [], [], [], [], [], [], [], [], [], [], [], [], [], [], [], [], [], [], [], [], [], [], [], [], [], [], [], [], [], [], [], [], [], [], [], [], [], []]
def tFc (k i : Int) : Option Int := if k < 0 then none else (tFcL.getD k.toNat []).lookup i
def tMpL : List mmM := [([3], 0, 0, 280, 10242, 0), ([3], 0, 1, 42, 1984, 0), ([3], 0, 2, 39, 1942, 0), ([3], 0, 3, 6, 1696, 0), ([3], 0, 2, 0, 0, 1), ([3], 0, 3, 0, 0, 1), ([3], 0, 1, 0, 0, 1), ([3], 0, 4, 8, 210, 0), ([3], 0, 5, 4, 40, 0), ([1, 1, 1, 1, 1, 3], 1, 0, 0, 0, 1), ([1, 3], 0, 0, 0, 0, 1), ([1, 3], 4, 0, 0, 0, 1), ([3], 1, 0, 0, 0, 1), ([1, 3, 3], 0, 1, 0, 0, 1), ([3], 4, 1, 0, 0, 1), ([3], 0, 1, 0, 0, 1), ([3], 0, 1, 0, 0, 1), ([3], 1, 1, 0, 0, 1), ([3], 1, 1, 0, 0, 1), ([3], 4, 1, 0, 0, 1), ([1, 1, 3], 1, 1, 0, 0, 1), ([3], 0, 1, 0, 0, 1), ([1, 1, 3], 0, 1, 0, 0, 1), ([1, 1, 3], 0, 1, 0, 0, 1), ([3], 0, 1, 0, 0, 1), ([3], 1, 1, 0, 0, 1), ([3], 1, 1, 0, 0, 1), ([1, 3], 4, 2, 0, 0, 1), ([1, 3], 1, 2, 0, 0, 1), ([1, 3, 1], 1, 99, 0, 0, 1), ([1, 3], 1, 2, 0, 0, 1), ([1, 3], 0, 1, 0, 0, 1), ([1, 3], 0, 2, 0, 0, 1), ([3], 0, 1, 0, 0, 1), ([1, 3], 0, 1, 0, 0, 1), ([3], 1, 1, 0, 0, 1), ([1, 1, 3], 1, 1, 0, 0, 1), ([3], 1, 1, 0, 0, 1), ([1], 4, 99, 0, 0, 1), ([1, 1, 1, 1, 3], 0, 2, 0, 0, 1), ([3], 0, 1, 0, 0, 1), ([3], 1, 1, 0, 0, 1), ([1, 3], 4, 2, 0, 0, 1), ([3], 0, 1, 0, 0, 1), ([3], 0, 1, 0, 0, 1), ([1, 1, 3], 1, 2, 0, 0, 1), ([1, 1, 1, 3], 0, 2, 0, 0, 1), ([3], 0, 1, 0, 0, 1), ([3], 3, 2, 0, 0, 1), ([1, 3], 0, 2, 0, 0, 1), ([1, 3], 0, 1, 0, 0, 1), ([1, 3], 0, 1, 0, 0, 1), ([1, 3], 0, 1, 0, 0, 1), ([1, 3], 0, 1, 0, 0, 1), ([1, 3], 0, 3, 0, 0, 1), ([1, 3], 4, 1, 0, 0, 1), ([1, 3], 0, 1, 0, 0, 1), ([1, 3], 0, 1, 0, 0, 1), ([1], 4, 99, 0, 0, 1), ([1, 1, 3], 4, 1, 0, 0, 1), ([1, 3], 0, 1, 0, 0, 1), ([1, 3], 0, 1, 0, 0, 1), ([1, 3], 0, 1, 0, 0, 1), ([1, 3], 0, 1, 0, 0, 1), ([1, 1, 1, 3], 0, 3, 0, 0, 1), ([3], 0, 1, 0, 0, 1), ([3, 3], 3, 1, 0, 0, 1), ([3, 3], 0, 4, 0, 0, 1), ([1, 3], 1, 0, 0, 0, 1), ([1, 3], 1, 0, 0, 0, 1), ([3], 1, 2, 0, 0, 1), ([1, 3], 1, 4, 0, 0, 1), ([1, 3], 1, 4, 0, 0, 1), ([1], 1, 99, 0, 0, 3), ([1, 1, 1, 3], 1, 0, 0, 0, 1), ([1, 3], 4, 2, 0, 0, 1), ([1, 3], 4, 2, 0, 0, 1), ([1, 1, 3], 1, 0, 0, 0, 1), ([1, 3], 1, 0, 0, 0, 1), ([1, 3], 4, 0, 0, 0, 1), ([1, 1, 3], 1, 0, 0, 0, 1), ([1, 1, 3], 1, 0, 0, 0, 1), ([1, 3], 1, 4, 0, 0, 1), ([1, 3], 1, 0, 0, 0, 1), ([1, 1, 3], 1, 0, 0, 0, 1), ([1, 1, 1, 3, 3, 3], 1, 5, 0, 0, 1), ([1, 1, 3], 0, 3, 0, 0, 1), ([1, 1, 1, 3], 0, 3, 0, 0, 1), ([1, 3], 1, 3, 0, 0, 1), ([1, 1, 3], 1, 3, 0, 0, 1), ([1], 4, 99, 0, 0, 1), ([2, 2, 1], 2, 99, 0, 0, 1), ([1, 3], 1, 3, 0, 0, 1), ([1, 1, 1, 3], 1, 0, 0, 0, 1), ([1, 3, 3, 3], 0, 5, 0, 0, 1), ([1, 1, 1, 3], 1, 99, 0, 0, 1), ([1, 1, 3], 1, 0, 0, 0, 1), ([1, 3], 4, 0, 0, 0, 1), ([3], 4, 5, 0, 0, 1), ([3], 0, 5, 0, 0, 1), ([1, 1, 3], 1, 5, 0, 0, 1), ([1, 3], 1, 5, 0, 0, 1), ([1, 1, 3], 1, 0, 0, 0, 1), ([1, 3], 1, 2, 0, 0, 1), ([1, 3], 4, 5, 0, 0, 1), ([1, 3], 1, 5, 0, 0, 1), ([1, 1], 1, 99, 0, 0, 1), ([1, 3], 1, 0, 0, 0, 1), ([3], 0, 0, 0, 0, 1), ([3, 3], 0, 4, 0, 0, 1), ([1, 3], 1, 0, 0, 0, 1), ([1, 1, 3], 4, 0, 0, 0, 1), ([1, 1, 3], 0, 4, 0, 0, 1), ([3], 0, 4, 0, 0, 1), ([1, 3], 0, 4, 0, 0, 1), ([3], 1, 0, 0, 0, 1), ([1, 3], 1, 0, 0, 0, 1), ([3], 0, 0, 0, 0, 1), ([3], 1, 0, 0, 0, 1), ([1, 1, 3], 4, 0, 0, 0, 1), ([1, 3], 1, 0, 0, 0, 1), ([1, 1, 3], 1, 0, 0, 0, 1), ([1, 1, 3], 1, 0, 0, 0, 1), ([1, 1, 3], 1, 2, 0, 0, 1), ([1, 3], 0, 4, 0, 0, 1), ([3], 4, 0, 0, 0, 1), ([1, 3], 4, 0, 0, 0, 1), ([1, 1, 3], 1, 0, 0, 0, 1), ([1, 1, 3], 1, 0, 0, 0, 1), ([3], 1, 2, 0, 0, 1), ([1, 1, 3], 1, 0, 0, 0, 1), ([1, 3, 3, 3], 1, 5, 0, 0, 1), ([1, 1, 1, 3], 1, 0, 0, 0, 1), ([1, 1, 3], 1, 0, 0, 0, 1), ([1, 3], 4, 5, 0, 0, 1), ([1, 1], 1, 99, 0, 0, 1), ([1, 1, 3], 1, 0, 0, 0, 1), ([1, 1, 3], 0, 5, 0, 0, 1), ([1, 3], 1, 0, 0, 0, 1), ([3], 1, 0, 0, 0, 1), ([1, 3], 0, 0, 0, 0, 1), ([1, 3], 1, 99, 0, 0, 1), ([1, 3], 1, 0, 0, 0, 1), ([3], 4, 0, 0, 0, 1), ([1, 3], 4, 0, 0, 0, 1), ([1, 1, 1, 3], 4, 2, 0, 0, 1), ([3, 3, 3], 0, 4, 0, 0, 1), ([3], 0, 6, 53, 13338, 0), ([1, 1, 1, 1, 1, 3], 1, 6, 0, 0, 2), ([1, 3], 4, 6, 0, 0, 2), ([3], 1, 6, 0, 0, 2), ([3], 1, 6, 0, 0, 2), ([3], 0, 6, 0, 0, 2), ([1, 1, 3], 0, 6, 0, 0, 2), ([3, 3], 4, 6, 0, 0, 2), ([3, 3], 4, 6, 0, 0, 2), ([1], 4, 99, 0, 0, 2), ([1, 3], 0, 6, 0, 0, 2), ([1, 1, 1, 3], 4, 6, 0, 0, 2), ([3], 2, 6, 0, 0, 2), ([3], 2, 6, 0, 0, 2), ([3], 4, 6, 0, 0, 2), ([2, 1, 3], 1, 6, 0, 0, 2), ([1, 3], 0, 6, 0, 0, 2), ([3, 3], 0, 6, 0, 0, 2), ([1, 3], 1, 6, 0, 0, 2), ([1, 1, 3], 1, 6, 0, 0, 2), ([1], 4, 99, 0, 0, 2), ([2, 2, 2], 4, 99, 0, 0, 2), ([3], 0, 6, 0, 0, 2), ([3], 0, 6, 0, 0, 2), ([1, 3], 0, 6, 0, 0, 2), ([1, 3], 0, 6, 0, 0, 2), ([1, 1, 3], 0, 6, 0, 0, 2), ([3], 0, 6, 0, 0, 2), ([3], 0, 6, 0, 0, 2), ([3], 0, 6, 0, 0, 2), ([1, 1, 3], 0, 6, 0, 0, 2), ([1, 3], 0, 6, 0, 0, 2), ([1, 3], 4, 6, 0, 0, 2), ([1, 3], 0, 6, 0, 0, 2), ([3], 4, 6, 0, 0, 2), ([3], 1, 6, 0, 0, 2), ([1, 3], 4, 6, 0, 0, 2), ([3], 0, 6, 0, 0, 2), ([3], 0, 6, 0, 0, 2), ([1, 3], 4, 6, 0, 0, 2), ([3], 0, 6, 0, 0, 2), ([3], 0, 6, 0, 0, 2), ([3], 0, 6, 0, 0, 2), ([3], 4, 6, 0, 0, 2), ([3], 4, 6, 0, 0, 2), ([3], 0, 6, 0, 0, 2), ([1, 3], 1, 6, 0, 0, 2), ([1, 3], 1, 6, 0, 0, 2), ([3], 1, 6, 0, 0, 2), ([3], 1, 6, 0, 0, 2), ([3], 1, 6, 0, 0, 2), ([3], 1, 6, 0, 0, 2), ([1, 3], 1, 6, 0, 0, 2), ([3], 1, 6, 0, 0, 2), ([1], 1, 99, 0, 0, 2), ([1, 1, 1, 3], 1, 6, 0, 0, 2), ([1, 1, 3], 1, 6, 0, 0, 2), ([1, 3], 4, 6, 0, 0, 2), ([1, 3], 1, 6, 0, 0, 2), ([1, 3], 1, 6, 0, 0, 2), ([1, 3], 1, 6, 0, 0, 2), ([1, 3], 4, 6, 0, 0, 2), ([1, 3], 1, 6, 0, 0, 2), ([1, 3], 1, 6, 0, 0, 2), ([1, 1, 3], 1, 6, 0, 0, 2), ([1, 1, 3], 1, 6, 0, 0, 2), ([1, 3], 4, 6, 0, 0, 2), ([1, 1, 3], 1, 6, 0, 0, 2), ([1, 3], 1, 6, 0, 0, 2), ([1, 3], 1, 6, 0, 0, 2), ([1, 3], 1, 6, 0, 0, 2), ([1, 1, 3], 1, 6, 0, 0, 2), ([1, 1, 1, 3], 1, 6, 0, 0, 2), ([1, 1, 3], 2, 6, 0, 0, 2), ([2, 3], 0, 6, 0, 0, 2), ([1, 3], 0, 6, 0, 0, 2), ([2], 2, 99, 0, 0, 2), ([2, 2], 2, 99, 0, 0, 2), ([1, 1, 1, 3], 1, 6, 0, 0, 2), ([1, 1, 1, 3], 4, 6, 0, 0, 2), ([1, 1, 3], 1, 6, 0, 0, 2), ([1, 3], 4, 6, 0, 0, 2), ([1, 1, 1, 1, 3], 0, 6, 0, 0, 2), ([1, 1, 1, 3], 4, 6, 0, 0, 2), ([1, 1, 3], 1, 6, 0, 0, 2), ([1, 1, 3], 1, 6, 0, 0, 2), ([3], 4, 6, 0, 0, 2), ([1, 3], 1, 6, 0, 0, 2), ([3], 0, 6, 0, 0, 2), ([1, 3], 1, 6, 0, 0, 2), ([1, 1, 3], 4, 6, 0, 0, 2), ([1, 1, 3], 0, 6, 0, 0, 2), ([1, 3], 4, 6, 0, 0, 2), ([3], 1, 6, 0, 0, 2), ([1, 3], 1, 6, 0, 0, 2), ([1, 1, 3], 4, 6, 0, 0, 2), ([1, 3], 1, 6, 0, 0, 2), ([1, 1, 3], 1, 6, 0, 0, 2), ([1, 1, 3], 1, 6, 0, 0, 2), ([1, 1, 3], 1, 6, 0, 0, 2), ([1, 1, 3], 1, 6, 0, 0, 2), ([1, 1, 3], 1, 6, 0, 0, 2), ([1, 3], 1, 6, 0, 0, 2), ([1, 1, 3], 1, 6, 0, 0, 2), ([1, 1, 1, 3], 1, 6, 0, 0, 2), ([1, 1, 3], 4, 6, 0, 0, 2), ([1, 1, 3], 1, 6, 0, 0, 2), ([1, 1, 3], 1, 6, 0, 0, 2), ([1, 3], 1, 6, 0, 0, 2), ([3], 1, 6, 0, 0, 2), ([3], 1, 6, 0, 0, 2), ([1, 3], 0, 6, 0, 0, 2), ([1, 3], 1, 99, 0, 0, 2), ([1, 3], 1, 6, 0, 0, 2), ([3], 4, 6, 0, 0, 2), ([1, 3], 4, 6, 0, 0, 2)]
def tMp (mi : Nat) : mmM := tMpL.getD mi ([], 0, 99, 0, 0, 3)
def tYL : List MethodName := [⟨"TileHeel", "<init>", "()V"⟩, ⟨"TileHeel$TownText", "<init>", "()V"⟩, ⟨"TileHeel$Town", "<init>", "()V"⟩, ⟨"TileHeel$Laws", "<init>", "()V"⟩, ⟨"TileHeel$Town", "clear", "()V"⟩, ⟨"TileHeel$Laws", "clear", "()V"⟩, ⟨"TileHeel$TownText", "packOwnWords", "()V"⟩, ⟨"TileHeel$Roofs", "<init>", "()V"⟩, ⟨"TileHeel$Walk", "<init>", "()V"⟩, ⟨"TileHeel", "feed", "(IIIII)I"⟩, ⟨"TileHeel", "feedNumber", "(I)V"⟩, ⟨"TileHeel", "end", "(I)Z"⟩, ⟨"TileHeel", "town", "()I"⟩, ⟨"TileHeel$TownText", "open", "([II)V"⟩, ⟨"TileHeel$TownText", "goesOn", "()Z"⟩, ⟨"TileHeel$TownText", "skipBlanks", "()V"⟩, ⟨"TileHeel$TownText", "readStatement", "()V"⟩, ⟨"TileHeel$TownText", "wordHere", "()I"⟩, ⟨"TileHeel$TownText", "lettersEnd", "()I"⟩, ⟨"TileHeel$TownText", "sticks", "()Z"⟩, ⟨"TileHeel$TownText", "packed", "(II)I"⟩, ⟨"TileHeel$TownText", "readOwner", "()V"⟩, ⟨"TileHeel$TownText", "beginOneOf", "(II)V"⟩, ⟨"TileHeel$TownText", "fail", "(II)V"⟩, ⟨"TileHeel$TownText", "passWord", "()V"⟩, ⟨"TileHeel$TownText", "newName", "()I"⟩, ⟨"TileHeel$TownText", "name", "()I"⟩, ⟨"TileHeel$Town", "knows", "(I)Z"⟩, ⟨"TileHeel$Town", "ownerNamed", "(I)I"⟩, ⟨"TileHeel$Town", "placeOf", "(I[II)I"⟩, ⟨"TileHeel$Town", "lotNamed", "(I)I"⟩, ⟨"TileHeel$TownText", "refuseNameIf", "(Z)V"⟩, ⟨"TileHeel$Town", "addOwner", "(I)V"⟩, ⟨"TileHeel$TownText", "readLot", "()V"⟩, ⟨"TileHeel$TownText", "takeWord", "(I)V"⟩, ⟨"TileHeel$TownText", "ownerByName", "()I"⟩, ⟨"TileHeel$TownText", "number", "(II)I"⟩, ⟨"TileHeel$TownText", "here", "()I"⟩, ⟨"TileHeel$TownText", "isDigit", "(I)Z"⟩, ⟨"TileHeel$Town", "addLot", "(IIII)V"⟩, ⟨"TileHeel$TownText", "readInn", "()V"⟩, ⟨"TileHeel$TownText", "lotByName", "()I"⟩, ⟨"TileHeel$Town", "isLot", "(I)Z"⟩, ⟨"TileHeel$TownText", "readStork", "()V"⟩, ⟨"TileHeel$TownText", "readGap", "()V"⟩, ⟨"TileHeel$Town", "wideOf", "(II)I"⟩, ⟨"TileHeel$Town", "addGap", "(III)V"⟩, ⟨"TileHeel$TownText", "readPerson", "()V"⟩, ⟨"TileHeel$Town", "nextPersonRow", "()[I"⟩, ⟨"TileHeel$Town", "addPerson", "(I)V"⟩, ⟨"TileHeel$TownText", "readLaw", "(Z)V"⟩, ⟨"TileHeel$TownText", "sum", "(I)V"⟩, ⟨"TileHeel$TownText", "product", "(I)V"⟩, ⟨"TileHeel$TownText", "part", "(I)V"⟩, ⟨"TileHeel$Laws", "put", "(I)V"⟩, ⟨"TileHeel$TownText", "mayOpen", "(I)Z"⟩, ⟨"TileHeel$TownText", "takeSign", "(C)V"⟩, ⟨"TileHeel$TownText", "pair", "(I)V"⟩, ⟨"TileHeel$TownText", "isFactWord", "(I)Z"⟩, ⟨"TileHeel$TownText", "isHere", "(CC)Z"⟩, ⟨"TileHeel$TownText", "test", "(I)V"⟩, ⟨"TileHeel$TownText", "both", "(I)V"⟩, ⟨"TileHeel$TownText", "fact", "(I)V"⟩, ⟨"TileHeel$TownText", "comparison", "(I)V"⟩, ⟨"TileHeel$Laws", "add", "(III)V"⟩, ⟨"TileHeel$TownText", "close", "()V"⟩, ⟨"TileHeel$TownText", "handOver", "(LTileHeel$Town;)LTileHeel$Town;"⟩, ⟨"TileHeel$Roofs", "begin", "(LTileHeel$Town;)V"⟩, ⟨"TileHeel", "fault", "(I)I"⟩, ⟨"TileHeel", "has", "(I)I"⟩, ⟨"TileHeel$Town", "allLots", "()I"⟩, ⟨"TileHeel$Roofs", "tilesOf", "(I)I"⟩, ⟨"TileHeel$Roofs", "holes", "(I)I"⟩, ⟨"java/lang/Integer", "bitCount", "(I)I"⟩, ⟨"TileHeel", "letter", "(III)I"⟩, ⟨"TileHeel$Town", "isOwner", "(I)Z"⟩, ⟨"TileHeel$Town", "isPerson", "(I)Z"⟩, ⟨"TileHeel", "lot", "(II)I"⟩, ⟨"TileHeel", "guests", "(I)I"⟩, ⟨"TileHeel", "isFull", "(I)Z"⟩, ⟨"TileHeel", "gap", "(II)I"⟩, ⟨"TileHeel", "person", "(II)I"⟩, ⟨"TileHeel$Roofs", "ledTo", "(I)I"⟩, ⟨"TileHeel", "purse", "(I)I"⟩, ⟨"TileHeel", "toll", "(II)I"⟩, ⟨"TileHeel$Walk", "tollAt", "(LTileHeel$Town;LTileHeel$Roofs;III)I"⟩, ⟨"TileHeel$Laws", "setPerson", "(II)V"⟩, ⟨"TileHeel$Laws", "setPlace", "(III)V"⟩, ⟨"TileHeel$Laws", "due", "(I)I"⟩, ⟨"TileHeel$Laws", "valueOf", "(II)I"⟩, ⟨"TileHeel$Laws", "isJoint", "(I)Z"⟩, ⟨"TileHeel$Laws", "joined", "(IJJ)J"⟩, ⟨"TileHeel$Laws", "single", "(I)I"⟩, ⟨"TileHeel", "step", "(III)I"⟩, ⟨"TileHeel$Walk", "look", "(LTileHeel$Town;LTileHeel$Roofs;I)V"⟩, ⟨"TileHeel$Walk", "hopsFrom", "(LTileHeel$Town;III)I"⟩, ⟨"TileHeel", "way", "(II)I"⟩, ⟨"TileHeel", "findsWay", "(I)Z"⟩, ⟨"TileHeel$Walk", "seek", "()Z"⟩, ⟨"TileHeel$Walk", "measureRest", "()V"⟩, ⟨"TileHeel$Walk", "restBy", "(II)I"⟩, ⟨"TileHeel$Walk", "nextFrom", "(I)I"⟩, ⟨"TileHeel", "leave", "(II)I"⟩, ⟨"TileHeel$Town", "lotsOf", "(I)I"⟩, ⟨"TileHeel$Walk", "arrives", "(I)Z"⟩, ⟨"TileHeel$Walk", "reached", "(I)I"⟩, ⟨"TileHeel", "countOrBits", "(II)I"⟩, ⟨"TileHeel", "go", "(I)I"⟩, ⟨"TileHeel", "keepForUndo", "()V"⟩, ⟨"TileHeel$Roofs", "copyFrom", "(LTileHeel$Roofs;)V"⟩, ⟨"TileHeel", "goFoundWay", "(I)I"⟩, ⟨"TileHeel", "breaksAt", "(II)Z"⟩, ⟨"TileHeel$Roofs", "lead", "(II)V"⟩, ⟨"TileHeel$Roofs", "forgetOldestLed", "()V"⟩, ⟨"TileHeel$Roofs", "turnBack", "(I)V"⟩, ⟨"TileHeel", "night", "()I"⟩, ⟨"TileHeel", "draw", "(I)I"⟩, ⟨"TileHeel", "letRain", "()V"⟩, ⟨"TileHeel", "leaks", "()I"⟩, ⟨"TileHeel", "patch", "(II)Z"⟩, ⟨"TileHeel", "snow", "(I)I"⟩, ⟨"TileHeel", "fire", "(II)I"⟩, ⟨"TileHeel", "burns", "(II)I"⟩, ⟨"TileHeel$Town", "besides", "(II)I"⟩, ⟨"TileHeel$Roofs", "takeAllOf", "(I)V"⟩, ⟨"TileHeel", "undo", "()Z"⟩, ⟨"TileHeel", "seed", "(I)Z"⟩, ⟨"TileHeel", "led", "(II)I"⟩, ⟨"TileHeel", "stopped", "(II)I"⟩, ⟨"TileHeel$Town", "storks", "()I"⟩, ⟨"TileHeel", "opened", "(II)I"⟩, ⟨"TileHeel$Walk", "openIfLaid", "(LTileHeel$Town;LTileHeel$Roofs;I)I"⟩, ⟨"TileHeel", "broke", "(III)I"⟩, ⟨"TileHeel", "breakers", "(II)I"⟩, ⟨"TileHeel$Walk", "comesTo", "(I)Z"⟩, ⟨"TileHeel", "odds", "(II)I"⟩, ⟨"TileHeel", "worth", "(II)I"⟩, ⟨"TileHeel$Walk", "cut", "(II)V"⟩, ⟨"TileHeel", "reach", "(I)I"⟩, ⟨"TileHeel", "image", "()I"⟩, ⟨"TileHeel", "shoot", "(I)V"⟩, ⟨"TileHeel", "checkByte", "([II)I"⟩, ⟨"TileHeel", "octet", "(I)I"⟩, ⟨"TileHeel", "on", "()Z"⟩, ⟨"TileHeel", "isImage", "(I)Z"⟩, ⟨"TileHeel$Town", "goesBetween", "(III)Z"⟩, ⟨"TileHeel$Roofs", "load", "([ILTileHeel$Town;)V"⟩, ⟨"TileHeelModel", "<init>", "()V"⟩, ⟨"TileHeelModel", "feed", "(IIIII)I"⟩, ⟨"TileHeelModel", "end", "(I)Z"⟩, ⟨"TileHeelModel", "town", "()I"⟩, ⟨"TileHeelModel", "look", "()I"⟩, ⟨"TileHeelModel", "statementTold", "()V"⟩, ⟨"TileHeelModel", "fail", "(II)V"⟩, ⟨"TileHeelModel", "takes", "([C)Z"⟩, ⟨"TileHeelModel", "isHere", "([C)Z"⟩, ⟨"TileHeelModel", "isLetter", "(I)Z"⟩, ⟨"TileHeelModel", "ownerTold", "(I)V"⟩, ⟨"TileHeelModel", "isFull", "(III)Z"⟩, ⟨"TileHeelModel", "newName", "()J"⟩, ⟨"TileHeelModel", "name", "()J"⟩, ⟨"TileHeelModel", "isOwnHere", "()Z"⟩, ⟨"TileHeelModel", "nameOf", "(IJ)I"⟩, ⟨"TileHeelModel", "lotTold", "(I)V"⟩, ⟨"TileHeelModel", "asks", "([C)V"⟩, ⟨"TileHeelModel", "oneOf", "(I)I"⟩, ⟨"TileHeelModel", "number", "(II)I"⟩, ⟨"TileHeelModel", "isDigit", "(I)Z"⟩, ⟨"TileHeelModel", "isIn", "(JJJ)Z"⟩, ⟨"TileHeelModel", "innTold", "()V"⟩, ⟨"TileHeelModel", "storkTold", "()V"⟩, ⟨"TileHeelModel", "gapTold", "(I)V"⟩, ⟨"TileHeelModel", "personTold", "(I)V"⟩, ⟨"TileHeelModel", "lawTold", "(IZ)V"⟩, ⟨"TileHeelModel", "clears", "()V"⟩, ⟨"TileHeelModel", "sumsTold", "()V"⟩, ⟨"TileHeelModel", "onePart", "()V"⟩, ⟨"TileHeelModel", "opens", "(II)V"⟩, ⟨"TileHeelModel", "asksSign", "(I)V"⟩, ⟨"TileHeelModel", "takesSign", "(I)Z"⟩, ⟨"TileHeelModel", "code", "(I)V"⟩, ⟨"TileHeelModel", "goesOn", "()Z"⟩, ⟨"TileHeelModel", "mark", "()I"⟩, ⟨"TileHeelModel", "isMark", "(I)Z"⟩, ⟨"TileHeelModel", "dropsToMark", "()V"⟩, ⟨"TileHeelModel", "drops", "()V"⟩, ⟨"TileHeelModel", "isOn", "(I)Z"⟩, ⟨"TileHeelModel", "test", "()V"⟩, ⟨"TileHeelModel", "fact", "()V"⟩, ⟨"TileHeelModel", "dropsNots", "()V"⟩, ⟨"TileHeelModel", "goesOnTest", "()Z"⟩, ⟨"TileHeelModel", "hasSquare", "()Z"⟩, ⟨"TileHeelModel", "stands", "()V"⟩, ⟨"TileHeelModel", "fault", "(I)I"⟩, ⟨"TileHeelModel", "has", "(I)I"⟩, ⟨"TileHeelModel", "ownerMany", "()I"⟩, ⟨"TileHeelModel", "lotMany", "()I"⟩, ⟨"TileHeelModel", "personMany", "()I"⟩, ⟨"TileHeelModel", "tilesAll", "()I"⟩, ⟨"TileHeelModel", "tilesOf", "(I)I"⟩, ⟨"TileHeelModel", "holes", "()I"⟩, ⟨"TileHeelModel", "bits", "(I)I"⟩, ⟨"TileHeelModel", "letter", "(III)I"⟩, ⟨"TileHeelModel", "lot", "(II)I"⟩, ⟨"TileHeelModel", "isLot", "(I)Z"⟩, ⟨"TileHeelModel", "ownerOf", "(I)I"⟩, ⟨"TileHeelModel", "heightOf", "(I)I"⟩, ⟨"TileHeelModel", "bedsOf", "(I)I"⟩, ⟨"TileHeelModel", "hasStork", "(I)Z"⟩, ⟨"TileHeelModel", "thereAt", "(I)I"⟩, ⟨"TileHeelModel", "placeOf", "(I)I"⟩, ⟨"TileHeelModel", "gap", "(II)I"⟩, ⟨"TileHeelModel", "person", "(II)I"⟩, ⟨"TileHeelModel", "isPerson", "(I)Z"⟩, ⟨"TileHeelModel", "personOf", "(II)I"⟩, ⟨"TileHeelModel", "goalOf", "(I)I"⟩, ⟨"TileHeelModel", "ledTo", "(I)I"⟩, ⟨"TileHeelModel", "purse", "(I)I"⟩, ⟨"TileHeelModel", "toll", "(II)I"⟩, ⟨"TileHeelModel", "tollOf", "(III)I"⟩, ⟨"TileHeelModel", "told", "(II)J"⟩, ⟨"TileHeelModel", "puts", "(J)V"⟩, ⟨"TileHeelModel", "joins", "(I)V"⟩, ⟨"TileHeelModel", "clip", "(J)J"⟩, ⟨"TileHeelModel", "floor", "(JJ)J"⟩, ⟨"TileHeelModel", "step", "(III)I"⟩, ⟨"TileHeelModel", "isNear", "(III)Z"⟩, ⟨"TileHeelModel", "way", "(II)I"⟩, ⟨"TileHeelModel", "hasWay", "(I)Z"⟩, ⟨"TileHeelModel", "comes", "(IIII)V"⟩, ⟨"TileHeelModel", "finds", "(III)Z"⟩, ⟨"TileHeelModel", "nextOf", "(II)I"⟩, ⟨"TileHeelModel", "leave", "(II)I"⟩, ⟨"TileHeelModel", "undo", "()Z"⟩, ⟨"TileHeelModel", "go", "(I)I"⟩, ⟨"TileHeelModel", "keeps", "()V"⟩, ⟨"TileHeelModel", "walks", "(I)I"⟩, ⟨"TileHeelModel", "breaks", "(II)Z"⟩, ⟨"TileHeelModel", "leads", "(II)V"⟩, ⟨"TileHeelModel", "seed", "(I)Z"⟩, ⟨"TileHeelModel", "night", "()I"⟩, ⟨"TileHeelModel", "drawOf", "(I)I"⟩, ⟨"TileHeelModel", "patch", "(II)Z"⟩, ⟨"TileHeelModel", "snow", "(I)I"⟩, ⟨"TileHeelModel", "burns", "(II)I"⟩, ⟨"TileHeelModel", "firesOn", "(II)I"⟩, ⟨"TileHeelModel", "fire", "(II)I"⟩, ⟨"TileHeelModel", "led", "(II)I"⟩, ⟨"TileHeelModel", "stopped", "(II)I"⟩, ⟨"TileHeelModel", "tilesBy", "(I)I"⟩, ⟨"TileHeelModel", "opened", "(II)I"⟩, ⟨"TileHeelModel", "broke", "(III)I"⟩, ⟨"TileHeelModel", "comesTo", "(II)Z"⟩, ⟨"TileHeelModel", "worth", "(II)I"⟩, ⟨"TileHeelModel", "coinsAll", "(II)I"⟩, ⟨"TileHeelModel", "reach", "(I)I"⟩, ⟨"TileHeelModel", "leaks", "()I"⟩, ⟨"TileHeelModel", "image", "()I"⟩, ⟨"TileHeelModel", "writes", "(I)V"⟩, ⟨"TileHeelModel", "checked", "([II)I"⟩, ⟨"TileHeelModel", "octet", "(I)I"⟩, ⟨"TileHeelModel", "on", "()Z"⟩, ⟨"TileHeelModel", "isTold", "(I)Z"⟩]
def tY (mi : Nat) : MethodName := tYL.getD mi ⟨"", "", ""⟩
def tCo : List Nat := [148, 156, 162, 170, 219, 223, 297, 384, 430, 509, 513, 517, 521, 525, 533, 537, 541, 545, 549, 553, 557, 561, 565, 569, 573, 577, 581, 585, 589, 592, 596, 600, 604, 608, 612, 616, 621, 625, 628, 632, 636, 640, 645, 649, 653, 657, 662, 666, 670, 675, 679, 683, 687, 691, 695, 699, 703, 707, 710, 714, 718, 722, 726, 730, 734, 738, 743, 747, 751, 755, 759, 763, 767, 770, 777, 781, 786, 790, 794, 798, 802, 807, 811, 815, 820, 824, 828, 832, 836, 840, 843, 846, 861, 869, 873, 877, 881, 885, 889, 893, 898, 902, 906, 910, 914, 918, 921, 925, 929, 933, 941, 945, 949, 953, 957, 961, 965, 971, 975, 979, 983, 987, 991, 995, 999, 1003, 1007, 1011, 1016, 1020, 1024, 1028, 1032, 1036, 1040, 1043, 1047, 1051, 1055, 1061, 1065, 1068, 1072, 1076, 1080, 1084, 1088, 1093, 1318, 1322, 1326, 1330, 1334, 1338, 1342, 1346, 1349, 1353, 1357, 1361, 1365, 1369, 1375, 1379, 1383, 1387, 1391, 1394, 1397, 1401, 1405, 1409, 1413, 1417, 1421, 1425, 1429, 1433, 1437, 1441, 1445, 1449, 1453, 1457, 1461, 1465, 1469, 1473, 1477, 1481, 1485, 1489, 1493, 1497, 1501, 1505, 1509, 1513, 1517, 1521, 1525, 1528, 1532, 1538, 1542, 1546, 1550, 1554, 1558, 1562, 1566, 1570, 1574, 1578, 1582, 1586, 1590, 1594, 1599, 1603, 1607, 1611, 1617, 1620, 1625, 1630, 1634, 1638, 1642, 1646, 1650, 1655, 1659, 1663, 1667, 1671, 1675, 1679, 1683, 1687, 1691, 1695, 1703, 1707, 1712, 1717, 1721, 1726, 1730, 1734, 1738, 1742, 1747, 1751, 1756, 1760, 1764, 1768, 1772, 1775, 1779, 1783, 1787]
def tB (mi : Nat) : ByteArray := match lw_tbl[tCo.getD mi 0]? with
  | some (.code _ bs _ _) => bs
  | _ => ⟨#[]⟩
def tLL : List Nat := [2, 1, 1, 1, 3, 1, 6, 1, 1, 6, 3, 2, 3, 3, 1, 1, 1, 4, 2, 1, 5, 2, 3, 3, 1, 2, 3, 2, 2, 4, 2, 2, 2, 5, 2, 2, 7, 1, 1, 5, 3, 2, 2, 2, 4, 3, 4, 3, 1, 2, 5, 4, 4, 3, 2, 2, 2, 2, 1, 3, 3, 3, 3, 3, 4, 1, 3, 3, 2, 2, 1, 4, 4, 1, 5, 2, 2, 3, 4, 3, 3, 3, 4, 2, 3, 6, 3, 4, 5, 8, 1, 5, 2, 4, 5, 10, 3, 2, 3, 5, 3, 3, 6, 4, 2, 6, 2, 2, 1, 3, 5, 3, 3, 2, 3, 3, 2, 3, 3, 3, 3, 5, 6, 7, 3, 1, 2, 3, 8, 3, 7, 6, 4, 6, 3, 3, 7, 3, 2, 3, 2, 4, 2, 2, 5, 6, 5, 1, 8, 2, 2, 1, 2, 3, 2, 4, 1, 4, 4, 4, 3, 2, 5, 9, 2, 5, 5, 1, 6, 3, 2, 5, 11, 4, 1, 3, 5, 3, 2, 2, 2, 2, 2, 2, 1, 1, 2, 3, 2, 1, 1, 2, 2, 2, 2, 1, 1, 1, 3, 2, 3, 3, 9, 3, 2, 2, 2, 2, 2, 4, 2, 3, 3, 2, 3, 2, 4, 2, 3, 9, 5, 3, 6, 2, 6, 4, 5, 6, 2, 7, 10, 4, 5, 2, 4, 2, 4, 3, 4, 2, 4, 2, 3, 3, 3, 8, 6, 3, 6, 4, 6, 6, 4, 4, 5, 6, 3, 3, 2, 4, 2, 6, 8]
def tL (mi : Nat) : Nat := tLL.getD mi 0
def tRL : List (Option FieldType) := [(Option.none : Option FieldType), (Option.none : Option FieldType), (Option.none : Option FieldType), (Option.none : Option FieldType), (Option.none : Option FieldType), (Option.none : Option FieldType), (Option.none : Option FieldType), (Option.none : Option FieldType), (Option.none : Option FieldType), (Option.some FieldType.int), (Option.none : Option FieldType), (Option.some FieldType.boolean), (Option.some FieldType.int), (Option.none : Option FieldType), (Option.some FieldType.boolean), (Option.none : Option FieldType), (Option.none : Option FieldType), (Option.some FieldType.int), (Option.some FieldType.int), (Option.some FieldType.boolean), (Option.some FieldType.int), (Option.none : Option FieldType), (Option.none : Option FieldType), (Option.none : Option FieldType), (Option.none : Option FieldType), (Option.some FieldType.int), (Option.some FieldType.int), (Option.some FieldType.boolean), (Option.some FieldType.int), (Option.some FieldType.int), (Option.some FieldType.int), (Option.none : Option FieldType), (Option.none : Option FieldType), (Option.none : Option FieldType), (Option.none : Option FieldType), (Option.some FieldType.int), (Option.some FieldType.int), (Option.some FieldType.int), (Option.some FieldType.boolean), (Option.none : Option FieldType), (Option.none : Option FieldType), (Option.some FieldType.int), (Option.some FieldType.boolean), (Option.none : Option FieldType), (Option.none : Option FieldType), (Option.some FieldType.int), (Option.none : Option FieldType), (Option.none : Option FieldType), (Option.some (FieldType.array FieldType.int)), (Option.none : Option FieldType), (Option.none : Option FieldType), (Option.none : Option FieldType), (Option.none : Option FieldType), (Option.none : Option FieldType), (Option.none : Option FieldType), (Option.some FieldType.boolean), (Option.none : Option FieldType), (Option.none : Option FieldType), (Option.some FieldType.boolean), (Option.some FieldType.boolean), (Option.none : Option FieldType), (Option.none : Option FieldType), (Option.none : Option FieldType), (Option.none : Option FieldType), (Option.none : Option FieldType), (Option.none : Option FieldType), (Option.some (FieldType.object "TileHeel$Town")), (Option.none : Option FieldType), (Option.some FieldType.int), (Option.some FieldType.int), (Option.some FieldType.int), (Option.some FieldType.int), (Option.some FieldType.int), (Option.some FieldType.int), (Option.some FieldType.int), (Option.some FieldType.boolean), (Option.some FieldType.boolean), (Option.some FieldType.int), (Option.some FieldType.int), (Option.some FieldType.boolean), (Option.some FieldType.int), (Option.some FieldType.int), (Option.some FieldType.int), (Option.some FieldType.int), (Option.some FieldType.int), (Option.some FieldType.int), (Option.none : Option FieldType), (Option.none : Option FieldType), (Option.some FieldType.int), (Option.some FieldType.int), (Option.some FieldType.boolean), (Option.some FieldType.long), (Option.some FieldType.int), (Option.some FieldType.int), (Option.none : Option FieldType), (Option.some FieldType.int), (Option.some FieldType.int), (Option.some FieldType.boolean), (Option.some FieldType.boolean), (Option.none : Option FieldType), (Option.some FieldType.int), (Option.some FieldType.int), (Option.some FieldType.int), (Option.some FieldType.int), (Option.some FieldType.boolean), (Option.some FieldType.int), (Option.some FieldType.int), (Option.some FieldType.int), (Option.none : Option FieldType), (Option.none : Option FieldType), (Option.some FieldType.int), (Option.some FieldType.boolean), (Option.none : Option FieldType), (Option.none : Option FieldType), (Option.none : Option FieldType), (Option.some FieldType.int), (Option.some FieldType.int), (Option.none : Option FieldType), (Option.some FieldType.int), (Option.some FieldType.boolean), (Option.some FieldType.int), (Option.some FieldType.int), (Option.some FieldType.int), (Option.some FieldType.int), (Option.none : Option FieldType), (Option.some FieldType.boolean), (Option.some FieldType.boolean), (Option.some FieldType.int), (Option.some FieldType.int), (Option.some FieldType.int), (Option.some FieldType.int), (Option.some FieldType.int), (Option.some FieldType.int), (Option.some FieldType.int), (Option.some FieldType.boolean), (Option.some FieldType.int), (Option.some FieldType.int), (Option.none : Option FieldType), (Option.some FieldType.int), (Option.some FieldType.int), (Option.none : Option FieldType), (Option.some FieldType.int), (Option.some FieldType.int), (Option.some FieldType.boolean), (Option.some FieldType.boolean), (Option.some FieldType.boolean), (Option.none : Option FieldType), (Option.none : Option FieldType), (Option.some FieldType.int), (Option.some FieldType.boolean), (Option.some FieldType.int), (Option.some FieldType.int), (Option.none : Option FieldType), (Option.none : Option FieldType), (Option.some FieldType.boolean), (Option.some FieldType.boolean), (Option.some FieldType.boolean), (Option.none : Option FieldType), (Option.some FieldType.boolean), (Option.some FieldType.long), (Option.some FieldType.long), (Option.some FieldType.boolean), (Option.some FieldType.int), (Option.none : Option FieldType), (Option.none : Option FieldType), (Option.some FieldType.int), (Option.some FieldType.int), (Option.some FieldType.boolean), (Option.some FieldType.boolean), (Option.none : Option FieldType), (Option.none : Option FieldType), (Option.none : Option FieldType), (Option.none : Option FieldType), (Option.none : Option FieldType), (Option.none : Option FieldType), (Option.none : Option FieldType), (Option.none : Option FieldType), (Option.none : Option FieldType), (Option.none : Option FieldType), (Option.some FieldType.boolean), (Option.none : Option FieldType), (Option.some FieldType.boolean), (Option.some FieldType.int), (Option.some FieldType.boolean), (Option.none : Option FieldType), (Option.none : Option FieldType), (Option.some FieldType.boolean), (Option.none : Option FieldType), (Option.none : Option FieldType), (Option.none : Option FieldType), (Option.some FieldType.boolean), (Option.some FieldType.boolean), (Option.none : Option FieldType), (Option.some FieldType.int), (Option.some FieldType.int), (Option.some FieldType.int), (Option.some FieldType.int), (Option.some FieldType.int), (Option.some FieldType.int), (Option.some FieldType.int), (Option.some FieldType.int), (Option.some FieldType.int), (Option.some FieldType.int), (Option.some FieldType.int), (Option.some FieldType.boolean), (Option.some FieldType.int), (Option.some FieldType.int), (Option.some FieldType.int), (Option.some FieldType.boolean), (Option.some FieldType.int), (Option.some FieldType.int), (Option.some FieldType.int), (Option.some FieldType.int), (Option.some FieldType.boolean), (Option.some FieldType.int), (Option.some FieldType.int), (Option.some FieldType.int), (Option.some FieldType.int), (Option.some FieldType.int), (Option.some FieldType.int), (Option.some FieldType.long), (Option.none : Option FieldType), (Option.none : Option FieldType), (Option.some FieldType.long), (Option.some FieldType.long), (Option.some FieldType.int), (Option.some FieldType.boolean), (Option.some FieldType.int), (Option.some FieldType.boolean), (Option.none : Option FieldType), (Option.some FieldType.boolean), (Option.some FieldType.int), (Option.some FieldType.int), (Option.some FieldType.boolean), (Option.some FieldType.int), (Option.none : Option FieldType), (Option.some FieldType.int), (Option.some FieldType.boolean), (Option.none : Option FieldType), (Option.some FieldType.boolean), (Option.some FieldType.int), (Option.some FieldType.int), (Option.some FieldType.boolean), (Option.some FieldType.int), (Option.some FieldType.int), (Option.some FieldType.int), (Option.some FieldType.int), (Option.some FieldType.int), (Option.some FieldType.int), (Option.some FieldType.int), (Option.some FieldType.int), (Option.some FieldType.int), (Option.some FieldType.boolean), (Option.some FieldType.int), (Option.some FieldType.int), (Option.some FieldType.int), (Option.some FieldType.int), (Option.some FieldType.int), (Option.none : Option FieldType), (Option.some FieldType.int), (Option.some FieldType.int), (Option.some FieldType.boolean), (Option.some FieldType.boolean)]
def tR (mi : Nat) : Option FieldType := tRL.getD mi none
def tOL : List (Nat × Bool) := [(0, true), (1, true), (2, true), (3, true), (2, false), (3, false), (1, false), (4, true), (5, true), (0, false), (0, false), (0, false), (0, false), (1, false), (1, false), (1, false), (1, false), (1, false), (1, false), (1, false), (1, false), (1, false), (1, false), (1, false), (1, false), (1, false), (1, false), (2, false), (2, false), (2, false), (2, false), (1, false), (2, false), (1, false), (1, false), (1, false), (1, false), (1, false), (1, false), (2, false), (1, false), (1, false), (2, false), (1, false), (1, false), (2, false), (2, false), (1, false), (2, false), (2, false), (1, false), (1, false), (1, false), (1, false), (3, false), (1, false), (1, false), (1, false), (1, false), (1, false), (1, false), (1, false), (1, false), (1, false), (3, false), (1, false), (1, false), (4, false), (0, false), (0, false), (2, false), (4, false), (4, false), (8, false), (0, false), (2, false), (2, false), (0, false), (0, false), (0, false), (0, false), (0, false), (4, false), (0, false), (0, false), (5, false), (3, false), (3, false), (3, false), (3, false), (3, false), (3, false), (3, false), (0, false), (5, false), (5, false), (0, false), (0, false), (5, false), (5, false), (5, false), (5, false), (0, false), (2, false), (5, false), (5, false), (0, false), (0, false), (0, false), (4, false), (0, false), (0, false), (4, false), (4, false), (4, false), (0, false), (0, false), (0, false), (0, false), (0, false), (0, false), (0, false), (0, false), (2, false), (4, false), (0, false), (0, false), (0, false), (0, false), (2, false), (0, false), (5, false), (0, false), (0, false), (5, false), (0, false), (0, false), (5, false), (0, false), (0, false), (0, false), (0, false), (0, false), (0, false), (0, false), (2, false), (4, false), (6, true), (6, false), (6, false), (6, false), (6, false), (6, false), (6, false), (6, false), (6, false), (6, false), (6, false), (6, false), (6, false), (6, false), (6, false), (6, false), (6, false), (6, false), (6, false), (6, false), (6, false), (6, false), (6, false), (6, false), (6, false), (6, false), (6, false), (6, false), (6, false), (6, false), (6, false), (6, false), (6, false), (6, false), (6, false), (6, false), (6, false), (6, false), (6, false), (6, false), (6, false), (6, false), (6, false), (6, false), (6, false), (6, false), (6, false), (6, false), (6, false), (6, false), (6, false), (6, false), (6, false), (6, false), (6, false), (6, false), (6, false), (6, false), (6, false), (6, false), (6, false), (6, false), (6, false), (6, false), (6, false), (6, false), (6, false), (6, false), (6, false), (6, false), (6, false), (6, false), (6, false), (6, false), (6, false), (6, false), (6, false), (6, false), (6, false), (6, false), (6, false), (6, false), (6, false), (6, false), (6, false), (6, false), (6, false), (6, false), (6, false), (6, false), (6, false), (6, false), (6, false), (6, false), (6, false), (6, false), (6, false), (6, false), (6, false), (6, false), (6, false), (6, false), (6, false), (6, false), (6, false), (6, false), (6, false), (6, false), (6, false), (6, false), (6, false), (6, false), (6, false), (6, false), (6, false), (6, false)]
def tO (mi : Nat) : Nat × Bool := tOL.getD mi (0, false)
def p_c_init : List Nat := [0, 76, 101]
def b_c_init : List (List mmOp) := [[(1, 0, [3]), (26, 0, [0, 3]), (1, 0, [3]), (0, 1, [1600]), (23, 0, []), (11, 0, [0, 9]), (1, 0, [3]), (22, 1, [0, 13]), (9, 0, []), (21, 1, [2, 15]), (11, 0, [2, 16]), (1, 0, [3]), (22, 2, [0, 20]), (9, 0, []), (21, 2, [2, 22]), (11, 0, [3, 23]), (1, 0, [3]), (22, 4, [0, 27]), (9, 0, []), (21, 7, [2, 29]), (11, 0, [4, 30]), (1, 0, [3]), (0, 1, [20]), (23, 5, [0, 27]), (11, 0, [5, 34]), (1, 0, [3]), (22, 5, [0, 38]), (9, 0, []), (21, 8, [2, 40]), (11, 0, [9, 41]), (1, 0, [3]), (0, 1, [46]), (23, 0, []), (11, 0, [10, 45]), (0, 1, [0]), (2, 1, [1]), (17, 1, [])], [(1, 1, [1]), (0, 1, [20]), (16, 3, [2]), (1, 0, [3]), (10, 0, [5, 34]), (1, 1, [1]), (22, 4, [0, 27]), (9, 0, []), (21, 7, [2, 29]), (13, 5, []), (3, 1, [1]), (17, 1, [1])], [(1, 0, [3]), (0, 1, [1]), (11, 0, [8, 48]), (20, 0, [])]]
abbrev k_c_init : Nat := 0
def p_TownText_init : List Nat := [0]
def b_TownText_init : List (List mmOp) := [[(1, 0, [3]), (26, 0, [0, 3]), (1, 0, [3]), (0, 1, [0]), (23, 0, []), (11, 1, [2, 9]), (1, 0, [3]), (22, 2, [0, 15]), (9, 0, []), (21, 2, [2, 17]), (11, 1, [7, 18]), (1, 0, [3]), (0, 1, [29]), (23, 0, []), (11, 1, [8, 22]), (1, 0, [3]), (0, 1, [-1]), (11, 1, [1, 25]), (1, 0, [3]), (21, 6, [0, 29]), (20, 0, [])]]
abbrev k_TownText_init : Nat := 1
def p_Town_init : List Nat := [0]
def b_Town_init : List (List mmOp) := [[(1, 0, [3]), (26, 0, [0, 3]), (1, 0, [3]), (0, 1, [5]), (23, 0, []), (11, 2, [6, 9]), (1, 0, [3]), (0, 1, [10]), (23, 0, []), (11, 2, [7, 15]), (1, 0, [3]), (0, 1, [6]), (23, 0, []), (11, 2, [8, 18]), (1, 0, [3]), (0, 1, [10]), (0, 1, [5]), (24, 0, [0, 21]), (11, 2, [9, 23]), (1, 0, [3]), (0, 1, [6]), (0, 1, [6]), (24, 0, [0, 21]), (11, 2, [10, 26]), (1, 0, [3]), (0, 1, [10]), (0, 1, [10]), (24, 0, [0, 21]), (11, 2, [11, 29]), (1, 0, [3]), (22, 3, [0, 32]), (9, 0, []), (21, 3, [2, 34]), (11, 2, [12, 35]), (1, 0, [3]), (21, 4, [0, 39]), (20, 0, [])]]
abbrev k_Town_init : Nat := 2
def p_Laws_init : List Nat := [0]
def b_Laws_init : List (List mmOp) := [[(1, 0, [3]), (26, 0, [0, 3]), (1, 0, [3]), (0, 1, [8]), (23, 0, []), (11, 3, [2, 9]), (1, 0, [3]), (0, 1, [8]), (23, 0, []), (11, 3, [3, 15]), (1, 0, [3]), (0, 1, [8]), (23, 0, []), (11, 3, [4, 18]), (1, 0, [3]), (0, 1, [8]), (23, 0, []), (11, 3, [5, 21]), (1, 0, [3]), (0, 1, [1600]), (23, 0, []), (11, 3, [6, 24]), (1, 0, [3]), (0, 1, [64]), (23, 0, []), (11, 3, [7, 27]), (20, 0, [])]]
abbrev k_Laws_init : Nat := 3
def p_Town_clear : List Nat := [0, 32, 40, 61, 67]
def b_Town_clear : List (List mmOp) := [[(1, 0, [3]), (0, 1, [0]), (11, 2, [0, 42]), (1, 0, [3]), (0, 1, [0]), (11, 2, [1, 46]), (1, 0, [3]), (0, 1, [0]), (11, 2, [2, 49]), (1, 0, [3]), (0, 1, [0]), (11, 2, [3, 52]), (1, 0, [3]), (0, 1, [5]), (11, 2, [4, 55]), (1, 0, [3]), (0, 1, [0]), (11, 2, [5, 58]), (0, 1, [0]), (2, 1, [1]), (17, 1, [])], [(1, 1, [1]), (0, 1, [10]), (16, 3, [4]), (0, 1, [0]), (2, 2, [1]), (17, 2, [])], [(1, 2, [1]), (0, 1, [10]), (16, 3, [3]), (1, 0, [3]), (10, 2, [11, 29]), (1, 1, [1]), (12, 4, []), (1, 2, [1]), (0, 1, [-1]), (13, 0, []), (3, 2, [1]), (17, 2, [1])], [(3, 1, [1]), (17, 1, [1])], [(1, 0, [3]), (10, 2, [12, 35]), (21, 5, [0, 61]), (20, 0, [])]]
abbrev k_Town_clear : Nat := 4
def p_Laws_clear : List Nat := [0]
def b_Laws_clear : List (List mmOp) := [[(1, 0, [3]), (0, 1, [0]), (11, 3, [0, 30]), (1, 0, [3]), (0, 1, [0]), (11, 3, [1, 34]), (20, 0, [])]]
abbrev k_Laws_clear : Nat := 5
def p_TownText_packOwnWords : List Nat := [0, 9, 55, 75, 81]
def b_TownText_packOwnWords : List (List mmOp) := [[(0, 1, [0]), (2, 1, [1]), (0, 1, [0]), (2, 2, [1]), (0, 1, [0]), (2, 3, [1]), (0, 1, [0]), (2, 4, [1]), (17, 1, [])], [(1, 4, [1]), (0, 5, [0, 32]), (29, 0, [0, 34]), (16, 3, [4]), (0, 5, [0, 32]), (1, 4, [1]), (30, 0, [0, 40]), (2, 5, [1]), (1, 5, [1]), (0, 1, [32]), (16, 0, [2]), (1, 2, [1]), (1, 5, [1]), (0, 1, [97]), (4, 1, []), (0, 1, [1]), (4, 0, []), (0, 1, [5]), (1, 3, [1]), (4, 2, []), (4, 6, []), (4, 4, []), (2, 2, [1]), (3, 3, [1]), (17, 3, [1])], [(1, 1, [1]), (0, 1, [29]), (16, 3, [3]), (1, 0, [3]), (10, 1, [8, 22]), (1, 1, [1]), (1, 2, [1]), (13, 0, []), (3, 1, [1]), (0, 1, [0]), (2, 2, [1]), (0, 1, [0]), (2, 3, [1]), (17, 3, [])], [(3, 4, [1]), (17, 1, [1])], [(20, 0, [])]]
abbrev k_TownText_packOwnWords : Nat := 6
def p_Roofs_init : List Nat := [0]
def b_Roofs_init : List (List mmOp) := [[(1, 0, [3]), (26, 0, [0, 3]), (1, 0, [3]), (0, 1, [10]), (23, 0, []), (11, 4, [3, 9]), (1, 0, [3]), (0, 1, [6]), (23, 0, []), (11, 4, [4, 15]), (1, 0, [3]), (0, 1, [6]), (23, 0, []), (11, 4, [5, 18]), (1, 0, [3]), (0, 1, [5]), (23, 0, []), (11, 4, [6, 21]), (1, 0, [3]), (0, 1, [3]), (0, 1, [60]), (24, 0, [0, 24]), (11, 4, [7, 26]), (20, 0, [])]]
abbrev k_Roofs_init : Nat := 7
def p_Walk_init : List Nat := [0]
def b_Walk_init : List (List mmOp) := [[(1, 0, [3]), (26, 0, [0, 3]), (1, 0, [3]), (0, 1, [10]), (23, 0, []), (11, 5, [6, 9]), (1, 0, [3]), (0, 1, [10]), (23, 0, []), (11, 5, [7, 15]), (1, 0, [3]), (0, 1, [10]), (23, 0, []), (11, 5, [8, 18]), (1, 0, [3]), (0, 1, [10]), (23, 0, []), (11, 5, [9, 21]), (20, 0, [])]]
abbrev k_Walk_init : Nat := 8
def p_c_feed : List Nat := [0, 15]
def b_c_feed : List (List mmOp) := [[(1, 0, [3]), (10, 0, [1, 52]), (0, 1, [20]), (4, 0, []), (0, 1, [1600]), (16, 5, [1]), (0, 1, [-1]), (20, 1, [])], [(1, 0, [3]), (1, 1, [1]), (21, 10, [0, 55]), (1, 0, [3]), (1, 2, [1]), (21, 10, [0, 55]), (1, 0, [3]), (1, 3, [1]), (21, 10, [0, 55]), (1, 0, [3]), (1, 4, [1]), (21, 10, [0, 55]), (1, 0, [3]), (1, 5, [1]), (21, 10, [0, 55]), (1, 0, [3]), (10, 0, [1, 52]), (20, 1, [])]]
abbrev k_c_feed : Nat := 9
def p_c_feedNumber : List Nat := [0, 3, 43, 49]
def b_c_feedNumber : List (List mmOp) := [[(0, 1, [24]), (2, 2, [1]), (17, 1, [])], [(1, 2, [1]), (15, 2, [3]), (1, 0, [3]), (10, 0, [1, 52]), (0, 1, [1600]), (16, 3, [2]), (1, 0, [3]), (10, 0, [0, 9]), (1, 0, [3]), (10, 0, [1, 52]), (1, 1, [1]), (1, 2, [1]), (4, 8, []), (0, 1, [255]), (4, 3, []), (13, 0, []), (1, 0, [3]), (9, 0, []), (10, 0, [1, 52]), (0, 1, [1]), (4, 0, []), (11, 0, [1, 52]), (17, 2, [])], [(3, 2, [-8]), (17, 1, [1])], [(20, 0, [])]]
abbrev k_c_feedNumber : Nat := 10
def p_c_end : List Nat := [0, 12, 14]
def b_c_end : List (List mmOp) := [[(1, 1, [1]), (15, 2, [1]), (1, 1, [1]), (1, 0, [3]), (10, 0, [1, 52]), (16, 5, [2]), (17, 1, [])], [(0, 1, [0]), (20, 4, [])], [(1, 0, [3]), (1, 1, [1]), (11, 0, [1, 52]), (0, 1, [1]), (20, 4, [])]]
abbrev k_c_end : Nat := 11
def p_c_town : List Nat := [0, 24, 56, 75]
def b_c_town : List (List mmOp) := [[(1, 0, [3]), (10, 0, [2, 16]), (1, 0, [3]), (10, 0, [0, 9]), (1, 0, [3]), (10, 0, [1, 52]), (21, 13, [0, 59]), (1, 0, [3]), (0, 1, [0]), (11, 0, [1, 52]), (0, 1, [0]), (2, 1, [1]), (0, 1, [0]), (2, 2, [1]), (17, 1, [])], [(1, 2, [1]), (0, 1, [80]), (16, 3, [2]), (1, 0, [3]), (10, 0, [2, 16]), (21, 14, [0, 63]), (15, 0, [2]), (1, 0, [3]), (10, 0, [2, 16]), (21, 16, [0, 67]), (3, 1, [1]), (3, 2, [1]), (17, 1, [1])], [(1, 0, [3]), (10, 0, [2, 16]), (21, 65, [0, 70]), (1, 0, [3]), (10, 0, [2, 16]), (10, 1, [0, 73]), (15, 0, [3]), (0, 1, [-1]), (20, 1, [])], [(1, 0, [3]), (1, 0, [3]), (10, 0, [2, 16]), (1, 0, [3]), (10, 0, [3, 23]), (21, 66, [0, 76]), (11, 0, [3, 23]), (1, 0, [3]), (10, 0, [4, 30]), (1, 0, [3]), (10, 0, [3, 23]), (21, 67, [0, 80]), (1, 0, [3]), (0, 1, [0]), (11, 0, [7, 84]), (1, 1, [1]), (20, 1, [])]]
abbrev k_c_town : Nat := 12
def p_TownText_open : List Nat := [0]
def b_TownText_open : List (List mmOp) := [[(1, 0, [3]), (1, 1, [3]), (11, 1, [2, 9]), (1, 0, [3]), (1, 2, [1]), (1, 1, [3]), (14, 0, []), (31, 1, [0, 44]), (11, 1, [3, 50]), (1, 0, [3]), (10, 1, [7, 18]), (21, 4, [0, 52]), (1, 0, [3]), (0, 1, [0]), (11, 1, [4, 55]), (1, 0, [3]), (0, 1, [-1]), (11, 1, [6, 58]), (1, 0, [3]), (0, 1, [0]), (11, 1, [0, 61]), (1, 0, [3]), (0, 1, [-1]), (11, 1, [1, 25]), (20, 0, [])]]
abbrev k_TownText_open : Nat := 13
def p_TownText_goesOn : List Nat := [0, 26, 27]
def b_TownText_goesOn : List (List mmOp) := [[(1, 0, [3]), (21, 15, [0, 64]), (1, 0, [3]), (10, 1, [0, 61]), (15, 1, [1]), (1, 0, [3]), (10, 1, [4, 55]), (1, 0, [3]), (10, 1, [3, 50]), (16, 3, [1]), (0, 1, [1]), (17, 2, [1])], [(0, 1, [0]), (17, 2, [])], [(20, 4, [])]]
abbrev k_TownText_goesOn : Nat := 14
def p_TownText_skipBlanks : List Nat := [0, 39, 52]
def b_TownText_skipBlanks : List (List mmOp) := [[(1, 0, [3]), (10, 1, [4, 55]), (1, 0, [3]), (10, 1, [3, 50]), (16, 3, [2]), (1, 0, [3]), (10, 1, [2, 9]), (1, 0, [3]), (10, 1, [4, 55]), (12, 0, []), (0, 1, [32]), (16, 0, [1]), (1, 0, [3]), (10, 1, [2, 9]), (1, 0, [3]), (10, 1, [4, 55]), (12, 0, []), (0, 1, [10]), (16, 1, [2]), (17, 1, [])], [(1, 0, [3]), (9, 0, []), (10, 1, [4, 55]), (0, 1, [1]), (4, 0, []), (11, 1, [4, 55]), (17, 0, [1])], [(20, 0, [])]]
abbrev k_TownText_skipBlanks : Nat := 15
def p_TownText_readStatement : List Nat := [0, 108, 115, 122, 129, 136, 143, 150, 158, 166, 187, 208, 217]
def b_TownText_readStatement : List (List mmOp) := [[(1, 0, [3]), (21, 17, [0, 75]), (18, 0, [11, 1, 2, 11, 11, 11, 3, 11, 4, 5, 11, 6, 11, 11, 11, 11, 11, 11, 7, 8, 11, 9, 10])], [(1, 0, [3]), (21, 21, [0, 78]), (17, 12, [1])], [(1, 0, [3]), (21, 33, [0, 81]), (17, 12, [1])], [(1, 0, [3]), (21, 40, [0, 84]), (17, 12, [1])], [(1, 0, [3]), (21, 43, [0, 87]), (17, 12, [1])], [(1, 0, [3]), (21, 44, [0, 90]), (17, 12, [1])], [(1, 0, [3]), (21, 47, [0, 93]), (17, 12, [1])], [(1, 0, [3]), (0, 1, [1]), (21, 50, [0, 96]), (17, 12, [1])], [(1, 0, [3]), (0, 1, [0]), (21, 50, [0, 96]), (17, 12, [1])], [(1, 0, [3]), (21, 24, [0, 100]), (1, 0, [3]), (10, 1, [7, 18]), (1, 0, [3]), (0, 1, [1]), (0, 1, [20]), (21, 36, [0, 103]), (11, 2, [4, 106]), (17, 12, [1])], [(1, 0, [3]), (21, 24, [0, 100]), (1, 0, [3]), (10, 1, [7, 18]), (1, 0, [3]), (0, 1, [0]), (0, 1, [100]), (21, 36, [0, 103]), (11, 2, [5, 109]), (17, 12, [1])], [(1, 0, [3]), (0, 1, [1]), (1, 0, [3]), (10, 1, [4, 55]), (21, 23, [0, 71]), (17, 12, [])], [(1, 0, [3]), (0, 1, [59]), (21, 56, [0, 112]), (20, 0, [])]]
abbrev k_TownText_readStatement : Nat := 16
def p_TownText_wordHere : List Nat := [0, 35, 37, 49, 67, 73]
def b_TownText_wordHere : List (List mmOp) := [[(1, 0, [3]), (21, 15, [0, 64]), (1, 0, [3]), (21, 18, [0, 232]), (2, 1, [1]), (1, 1, [1]), (1, 0, [3]), (10, 1, [4, 55]), (16, 0, [1]), (1, 1, [1]), (1, 0, [3]), (10, 1, [4, 55]), (4, 1, []), (0, 1, [6]), (16, 4, [1]), (1, 0, [3]), (21, 19, [0, 238]), (15, 0, [2]), (17, 1, [])], [(0, 1, [-1]), (20, 1, [])], [(1, 0, [3]), (1, 0, [3]), (10, 1, [4, 55]), (1, 1, [1]), (21, 20, [0, 241]), (2, 2, [1]), (0, 1, [0]), (2, 3, [1]), (17, 3, [])], [(1, 3, [1]), (0, 1, [29]), (16, 3, [5]), (1, 0, [3]), (10, 1, [8, 22]), (1, 3, [1]), (12, 0, []), (1, 2, [1]), (16, 1, [4]), (1, 3, [1]), (20, 1, [])], [(3, 3, [1]), (17, 3, [1])], [(0, 1, [-1]), (20, 1, [])]]
abbrev k_TownText_wordHere : Nat := 17
def p_TownText_lettersEnd : List Nat := [0, 5, 41]
def b_TownText_lettersEnd : List (List mmOp) := [[(1, 0, [3]), (10, 1, [4, 55]), (2, 1, [1]), (17, 1, [])], [(1, 1, [1]), (1, 0, [3]), (10, 1, [3, 50]), (16, 3, [2]), (1, 0, [3]), (10, 1, [2, 9]), (1, 1, [1]), (12, 0, []), (0, 1, [97]), (16, 2, [2]), (1, 0, [3]), (10, 1, [2, 9]), (1, 1, [1]), (12, 0, []), (0, 1, [122]), (16, 4, [2]), (3, 1, [1]), (17, 1, [1])], [(1, 1, [1]), (20, 1, [])]]
abbrev k_TownText_lettersEnd : Nat := 18
def p_TownText_sticks : List Nat := [0, 15, 16]
def b_TownText_sticks : List (List mmOp) := [[(1, 0, [3]), (10, 1, [4, 55]), (1, 0, [3]), (10, 1, [6, 58]), (16, 1, [1]), (0, 1, [1]), (17, 2, [1])], [(0, 1, [0]), (17, 2, [])], [(20, 4, [])]]
abbrev k_TownText_sticks : Nat := 19
def p_TownText_packed : List Nat := [0, 5, 48]
def b_TownText_packed : List (List mmOp) := [[(0, 1, [0]), (2, 3, [1]), (1, 1, [1]), (2, 4, [1]), (17, 1, [])], [(1, 4, [1]), (1, 2, [1]), (16, 3, [2]), (1, 4, [1]), (1, 0, [3]), (10, 1, [3, 50]), (16, 3, [2]), (1, 3, [1]), (1, 0, [3]), (10, 1, [2, 9]), (1, 4, [1]), (12, 0, []), (0, 1, [97]), (4, 1, []), (0, 1, [1]), (4, 0, []), (0, 1, [5]), (1, 4, [1]), (1, 1, [1]), (4, 1, []), (4, 2, []), (4, 6, []), (4, 4, []), (2, 3, [1]), (3, 4, [1]), (17, 1, [1])], [(1, 3, [1]), (20, 1, [])]]
abbrev k_TownText_packed : Nat := 20
def p_TownText_readOwner : List Nat := [0, 32]
def b_TownText_readOwner : List (List mmOp) := [[(1, 0, [3]), (1, 0, [3]), (10, 1, [7, 18]), (10, 2, [0, 116]), (0, 1, [5]), (21, 22, [0, 119]), (1, 0, [3]), (21, 25, [0, 122]), (2, 1, [1]), (1, 0, [3]), (10, 1, [0, 61]), (15, 1, [1]), (1, 0, [3]), (10, 1, [7, 18]), (1, 1, [1]), (21, 32, [0, 125]), (17, 1, [])], [(20, 0, [])]]
abbrev k_TownText_readOwner : Nat := 21
def p_TownText_beginOneOf : List Nat := [0, 14]
def b_TownText_beginOneOf : List (List mmOp) := [[(1, 1, [1]), (1, 2, [1]), (16, 2, [1]), (1, 0, [3]), (0, 1, [5]), (1, 0, [3]), (10, 1, [4, 55]), (21, 23, [0, 71]), (17, 1, [])], [(1, 0, [3]), (21, 24, [0, 100]), (20, 0, [])]]
abbrev k_TownText_beginOneOf : Nat := 22
def p_TownText_fail : List Nat := [0, 17]
def b_TownText_fail : List (List mmOp) := [[(1, 0, [3]), (10, 1, [0, 61]), (15, 1, [1]), (1, 0, [3]), (1, 1, [1]), (11, 1, [0, 61]), (1, 0, [3]), (1, 2, [1]), (11, 1, [1, 25]), (17, 1, [])], [(20, 0, [])]]
abbrev k_TownText_fail : Nat := 23
def p_TownText_passWord : List Nat := [0]
def b_TownText_passWord : List (List mmOp) := [[(1, 0, [3]), (1, 0, [3]), (21, 18, [0, 232]), (11, 1, [4, 55]), (1, 0, [3]), (1, 0, [3]), (10, 1, [4, 55]), (11, 1, [6, 58]), (20, 0, [])]]
abbrev k_TownText_passWord : Nat := 24
def p_TownText_newName : List Nat := [0]
def b_TownText_newName : List (List mmOp) := [[(1, 0, [3]), (21, 26, [0, 244]), (2, 1, [1]), (1, 0, [3]), (1, 0, [3]), (10, 1, [7, 18]), (1, 1, [1]), (21, 27, [0, 247]), (21, 31, [0, 153]), (1, 1, [1]), (20, 1, [])]]
abbrev k_TownText_newName : Nat := 25
def p_TownText_name : List Nat := [0, 32, 44, 70, 90, 106]
def b_TownText_name : List (List mmOp) := [[(1, 0, [3]), (21, 15, [0, 64]), (1, 0, [3]), (21, 18, [0, 232]), (2, 1, [1]), (1, 0, [3]), (1, 0, [3]), (10, 1, [4, 55]), (11, 1, [5, 235]), (1, 1, [1]), (1, 0, [3]), (10, 1, [4, 55]), (16, 0, [1]), (1, 0, [3]), (21, 19, [0, 238]), (15, 0, [2]), (17, 1, [])], [(1, 0, [3]), (0, 1, [1]), (1, 0, [3]), (10, 1, [4, 55]), (21, 23, [0, 71]), (17, 5, [1])], [(1, 1, [1]), (1, 0, [3]), (10, 1, [4, 55]), (4, 1, []), (0, 1, [6]), (16, 5, [3]), (1, 0, [3]), (0, 1, [1]), (1, 0, [3]), (10, 1, [4, 55]), (0, 1, [6]), (4, 0, []), (21, 23, [0, 71]), (17, 5, [1])], [(1, 0, [3]), (21, 17, [0, 75]), (0, 1, [-1]), (16, 0, [4]), (1, 0, [3]), (0, 1, [1]), (1, 0, [3]), (10, 1, [4, 55]), (21, 23, [0, 71]), (17, 5, [1])], [(1, 0, [3]), (1, 0, [3]), (10, 1, [4, 55]), (1, 1, [1]), (21, 20, [0, 241]), (2, 2, [1]), (1, 0, [3]), (21, 24, [0, 100]), (1, 2, [1]), (20, 1, [])], [(0, 1, [0]), (20, 1, [])]]
abbrev k_TownText_name : Nat := 26
def p_Town_knows : List Nat := [0, 34, 38, 39]
def b_Town_knows : List (List mmOp) := [[(1, 0, [3]), (1, 1, [1]), (21, 28, [0, 66]), (0, 1, [-1]), (16, 1, [1]), (1, 0, [3]), (1, 1, [1]), (21, 30, [0, 70]), (0, 1, [-1]), (16, 1, [1]), (1, 1, [1]), (1, 0, [3]), (10, 2, [8, 18]), (1, 0, [3]), (10, 2, [3, 52]), (21, 29, [1, 62]), (0, 1, [-1]), (16, 0, [2]), (17, 1, [])], [(0, 1, [1]), (17, 3, [1])], [(0, 1, [0]), (17, 3, [])], [(20, 4, [])]]
abbrev k_Town_knows : Nat := 27
def p_Town_ownerNamed : List Nat := [0]
def b_Town_ownerNamed : List (List mmOp) := [[(1, 1, [1]), (1, 0, [3]), (10, 2, [6, 9]), (1, 0, [3]), (10, 2, [0, 42]), (21, 29, [1, 62]), (20, 1, [])]]
abbrev k_Town_ownerNamed : Nat := 28
def p_Town_placeOf : List Nat := [0, 2, 22, 28]
def b_Town_placeOf : List (List mmOp) := [[(0, 1, [0]), (2, 3, [1]), (17, 1, [])], [(1, 3, [1]), (1, 2, [1]), (16, 3, [3]), (1, 3, [1]), (1, 1, [3]), (14, 0, []), (16, 3, [3]), (1, 1, [3]), (1, 3, [1]), (12, 0, []), (1, 0, [1]), (16, 1, [2]), (1, 3, [1]), (20, 1, [])], [(3, 3, [1]), (17, 1, [1])], [(0, 1, [-1]), (20, 1, [])]]
abbrev k_Town_placeOf : Nat := 29
def p_Town_lotNamed : List Nat := [0]
def b_Town_lotNamed : List (List mmOp) := [[(1, 1, [1]), (1, 0, [3]), (10, 2, [7, 15]), (1, 0, [3]), (10, 2, [1, 46]), (21, 29, [1, 62]), (20, 1, [])]]
abbrev k_Town_lotNamed : Nat := 30
def p_TownText_refuseNameIf : List Nat := [0, 13]
def b_TownText_refuseNameIf : List (List mmOp) := [[(1, 1, [1]), (15, 0, [1]), (1, 0, [3]), (0, 1, [3]), (1, 0, [3]), (10, 1, [5, 235]), (21, 23, [0, 71]), (17, 1, [])], [(20, 0, [])]]
abbrev k_TownText_refuseNameIf : Nat := 31
def p_Town_addOwner : List Nat := [0, 28]
def b_Town_addOwner : List (List mmOp) := [[(1, 0, [3]), (10, 2, [0, 42]), (0, 1, [5]), (16, 3, [1]), (1, 0, [3]), (10, 2, [6, 9]), (1, 0, [3]), (10, 2, [0, 42]), (1, 1, [1]), (13, 0, []), (1, 0, [3]), (9, 0, []), (10, 2, [0, 42]), (0, 1, [1]), (4, 0, []), (11, 2, [0, 42]), (17, 1, [])], [(20, 0, [])]]
abbrev k_Town_addOwner : Nat := 32
def p_TownText_readLot : List Nat := [0, 74]
def b_TownText_readLot : List (List mmOp) := [[(1, 0, [3]), (1, 0, [3]), (10, 1, [7, 18]), (10, 2, [1, 129]), (0, 1, [10]), (21, 22, [0, 119]), (1, 0, [3]), (21, 25, [0, 122]), (2, 1, [1]), (1, 0, [3]), (0, 1, [2]), (21, 34, [0, 132]), (1, 0, [3]), (21, 35, [0, 135]), (2, 2, [1]), (1, 0, [3]), (0, 1, [3]), (21, 34, [0, 132]), (1, 0, [3]), (0, 1, [0]), (0, 1, [20]), (21, 36, [0, 103]), (2, 3, [1]), (1, 0, [3]), (0, 1, [4]), (21, 34, [0, 132]), (1, 0, [3]), (0, 1, [0]), (0, 1, [30]), (21, 36, [0, 103]), (2, 4, [1]), (1, 0, [3]), (10, 1, [0, 61]), (15, 1, [1]), (1, 0, [3]), (10, 1, [7, 18]), (1, 1, [1]), (1, 2, [1]), (1, 3, [1]), (1, 4, [1]), (21, 39, [0, 138]), (17, 1, [])], [(20, 0, [])]]
abbrev k_TownText_readLot : Nat := 33
def p_TownText_takeWord : List Nat := [0, 15, 24]
def b_TownText_takeWord : List (List mmOp) := [[(1, 0, [3]), (21, 17, [0, 75]), (1, 1, [1]), (16, 1, [1]), (1, 0, [3]), (21, 24, [0, 100]), (17, 2, [1])], [(1, 0, [3]), (0, 1, [1]), (1, 0, [3]), (10, 1, [4, 55]), (21, 23, [0, 71]), (17, 2, [])], [(20, 0, [])]]
abbrev k_TownText_takeWord : Nat := 34
def p_TownText_ownerByName : List Nat := [0, 22, 23]
def b_TownText_ownerByName : List (List mmOp) := [[(1, 0, [3]), (10, 1, [7, 18]), (1, 0, [3]), (21, 26, [0, 244]), (21, 28, [0, 250]), (2, 1, [1]), (1, 0, [3]), (1, 1, [1]), (0, 1, [-1]), (16, 1, [1]), (0, 1, [1]), (17, 2, [1])], [(0, 1, [0]), (17, 2, [])], [(21, 31, [0, 153]), (1, 1, [1]), (20, 1, [])]]
abbrev k_TownText_ownerByName : Nat := 35
def p_TownText_number : List Nat := [0, 21, 68, 89, 98, 120, 132, 138]
def b_TownText_number : List (List mmOp) := [[(1, 0, [3]), (21, 15, [0, 64]), (1, 0, [3]), (10, 1, [4, 55]), (2, 3, [1]), (1, 0, [3]), (21, 19, [0, 238]), (2, 4, [1]), (0, 1, [0]), (2, 5, [1]), (0, 1, [0]), (2, 6, [1]), (17, 1, [])], [(1, 6, [1]), (0, 1, [4]), (16, 3, [2]), (1, 0, [3]), (21, 37, [0, 207]), (21, 38, [1, 223]), (15, 0, [2]), (0, 1, [10]), (1, 5, [1]), (4, 2, []), (1, 0, [3]), (21, 37, [0, 207]), (4, 0, []), (0, 1, [48]), (4, 1, []), (2, 5, [1]), (1, 0, [3]), (9, 0, []), (10, 1, [4, 55]), (0, 1, [1]), (4, 0, []), (11, 1, [4, 55]), (3, 6, [1]), (17, 1, [1])], [(1, 0, [3]), (1, 0, [3]), (10, 1, [4, 55]), (11, 1, [6, 58]), (1, 0, [3]), (10, 1, [4, 55]), (1, 3, [1]), (16, 0, [3]), (1, 4, [1]), (15, 0, [4]), (17, 3, [])], [(1, 0, [3]), (0, 1, [1]), (1, 3, [1]), (21, 23, [0, 71]), (17, 7, [1])], [(1, 0, [3]), (21, 37, [0, 207]), (21, 38, [1, 223]), (15, 0, [5]), (1, 0, [3]), (0, 1, [1]), (1, 0, [3]), (10, 1, [4, 55]), (21, 23, [0, 71]), (17, 7, [1])], [(1, 5, [1]), (1, 1, [1]), (16, 2, [6]), (1, 5, [1]), (1, 2, [1]), (16, 5, [7]), (17, 6, [])], [(1, 0, [3]), (0, 1, [2]), (1, 3, [1]), (21, 23, [0, 71]), (17, 7, [])], [(1, 5, [1]), (20, 1, [])]]
abbrev k_TownText_number : Nat := 36
def p_TownText_here : List Nat := [0, 23, 24]
def b_TownText_here : List (List mmOp) := [[(1, 0, [3]), (10, 1, [4, 55]), (1, 0, [3]), (10, 1, [3, 50]), (16, 3, [1]), (1, 0, [3]), (10, 1, [2, 9]), (1, 0, [3]), (10, 1, [4, 55]), (12, 0, []), (17, 2, [1])], [(0, 1, [-1]), (17, 2, [])], [(20, 1, [])]]
abbrev k_TownText_here : Nat := 37
def p_TownText_isDigit : List Nat := [0, 16, 17]
def b_TownText_isDigit : List (List mmOp) := [[(1, 0, [1]), (0, 1, [48]), (16, 2, [1]), (1, 0, [1]), (0, 1, [57]), (16, 4, [1]), (0, 1, [1]), (17, 2, [1])], [(0, 1, [0]), (17, 2, [])], [(20, 4, [])]]
abbrev k_TownText_isDigit : Nat := 38
def p_Town_addLot : List Nat := [0, 90]
def b_Town_addLot : List (List mmOp) := [[(1, 0, [3]), (10, 2, [1, 46]), (0, 1, [10]), (16, 3, [1]), (1, 0, [3]), (10, 2, [7, 15]), (1, 0, [3]), (10, 2, [1, 46]), (1, 1, [1]), (13, 0, []), (1, 0, [3]), (10, 2, [9, 23]), (1, 0, [3]), (10, 2, [1, 46]), (12, 4, []), (0, 1, [0]), (1, 2, [1]), (13, 0, []), (1, 0, [3]), (10, 2, [9, 23]), (1, 0, [3]), (10, 2, [1, 46]), (12, 4, []), (0, 1, [1]), (1, 3, [1]), (13, 0, []), (1, 0, [3]), (10, 2, [9, 23]), (1, 0, [3]), (10, 2, [1, 46]), (12, 4, []), (0, 1, [2]), (1, 4, [1]), (13, 0, []), (1, 0, [3]), (10, 2, [9, 23]), (1, 0, [3]), (10, 2, [1, 46]), (12, 4, []), (0, 1, [3]), (0, 1, [0]), (13, 0, []), (1, 0, [3]), (10, 2, [9, 23]), (1, 0, [3]), (10, 2, [1, 46]), (12, 4, []), (0, 1, [4]), (0, 1, [0]), (13, 0, []), (1, 0, [3]), (9, 0, []), (10, 2, [1, 46]), (0, 1, [1]), (4, 0, []), (11, 2, [1, 46]), (17, 1, [])], [(20, 0, [])]]
abbrev k_Town_addLot : Nat := 39
def p_TownText_readInn : List Nat := [0, 39, 40, 87]
def b_TownText_readInn : List (List mmOp) := [[(1, 0, [3]), (21, 24, [0, 100]), (1, 0, [3]), (21, 41, [0, 142]), (2, 1, [1]), (1, 0, [3]), (1, 0, [3]), (10, 1, [7, 18]), (1, 1, [1]), (21, 42, [0, 145]), (15, 0, [1]), (1, 0, [3]), (10, 1, [7, 18]), (10, 2, [9, 149]), (1, 1, [1]), (12, 4, []), (0, 1, [3]), (12, 0, []), (15, 0, [1]), (0, 1, [1]), (17, 2, [1])], [(0, 1, [0]), (17, 2, [])], [(21, 31, [0, 153]), (1, 0, [3]), (0, 1, [6]), (21, 34, [0, 132]), (1, 0, [3]), (0, 1, [1]), (0, 1, [9]), (21, 36, [0, 103]), (2, 2, [1]), (1, 0, [3]), (10, 1, [0, 61]), (15, 1, [3]), (1, 0, [3]), (10, 1, [7, 18]), (1, 1, [1]), (21, 42, [0, 145]), (15, 0, [3]), (1, 0, [3]), (10, 1, [7, 18]), (10, 2, [9, 149]), (1, 1, [1]), (12, 4, []), (0, 1, [3]), (1, 2, [1]), (13, 0, []), (17, 3, [])], [(20, 0, [])]]
abbrev k_TownText_readInn : Nat := 40
def p_TownText_lotByName : List Nat := [0, 22, 23]
def b_TownText_lotByName : List (List mmOp) := [[(1, 0, [3]), (10, 1, [7, 18]), (1, 0, [3]), (21, 26, [0, 244]), (21, 30, [0, 254]), (2, 1, [1]), (1, 0, [3]), (1, 1, [1]), (0, 1, [-1]), (16, 1, [1]), (0, 1, [1]), (17, 2, [1])], [(0, 1, [0]), (17, 2, [])], [(21, 31, [0, 153]), (1, 1, [1]), (20, 1, [])]]
abbrev k_TownText_lotByName : Nat := 41
def p_Town_isLot : List Nat := [0, 16, 17]
def b_Town_isLot : List (List mmOp) := [[(1, 1, [1]), (15, 2, [1]), (1, 1, [1]), (1, 0, [3]), (10, 2, [1, 46]), (16, 3, [1]), (0, 1, [1]), (17, 2, [1])], [(0, 1, [0]), (17, 2, [])], [(20, 4, [])]]
abbrev k_Town_isLot : Nat := 42
def p_TownText_readStork : List Nat := [0, 39, 40, 73]
def b_TownText_readStork : List (List mmOp) := [[(1, 0, [3]), (21, 24, [0, 100]), (1, 0, [3]), (21, 41, [0, 142]), (2, 1, [1]), (1, 0, [3]), (1, 0, [3]), (10, 1, [7, 18]), (1, 1, [1]), (21, 42, [0, 145]), (15, 0, [1]), (1, 0, [3]), (10, 1, [7, 18]), (10, 2, [9, 149]), (1, 1, [1]), (12, 4, []), (0, 1, [4]), (12, 0, []), (15, 0, [1]), (0, 1, [1]), (17, 2, [1])], [(0, 1, [0]), (17, 2, [])], [(21, 31, [0, 153]), (1, 0, [3]), (10, 1, [0, 61]), (15, 1, [3]), (1, 0, [3]), (10, 1, [7, 18]), (1, 1, [1]), (21, 42, [0, 145]), (15, 0, [3]), (1, 0, [3]), (10, 1, [7, 18]), (10, 2, [9, 149]), (1, 1, [1]), (12, 4, []), (0, 1, [4]), (0, 1, [1]), (13, 0, []), (17, 3, [])], [(20, 0, [])]]
abbrev k_TownText_readStork : Nat := 43
def p_TownText_readGap : List Nat := [0, 42, 46, 47, 81]
def b_TownText_readGap : List (List mmOp) := [[(1, 0, [3]), (1, 0, [3]), (10, 1, [7, 18]), (10, 2, [2, 156]), (0, 1, [20]), (21, 22, [0, 119]), (1, 0, [3]), (21, 41, [0, 142]), (2, 1, [1]), (1, 0, [3]), (21, 41, [0, 142]), (2, 2, [1]), (1, 0, [3]), (1, 1, [1]), (1, 2, [1]), (16, 0, [1]), (1, 0, [3]), (10, 1, [7, 18]), (1, 1, [1]), (1, 2, [1]), (21, 45, [0, 159]), (0, 1, [-1]), (16, 0, [2]), (17, 1, [])], [(0, 1, [1]), (17, 3, [1])], [(0, 1, [0]), (17, 3, [])], [(21, 31, [0, 153]), (1, 0, [3]), (0, 1, [9]), (21, 34, [0, 132]), (1, 0, [3]), (0, 1, [0]), (0, 1, [9]), (21, 36, [0, 103]), (2, 3, [1]), (1, 0, [3]), (10, 1, [0, 61]), (15, 1, [4]), (1, 0, [3]), (10, 1, [7, 18]), (1, 1, [1]), (1, 2, [1]), (1, 3, [1]), (21, 46, [0, 162]), (17, 4, [])], [(20, 0, [])]]
abbrev k_TownText_readGap : Nat := 44
def p_Town_wideOf : List Nat := [0, 27, 28]
def b_Town_wideOf : List (List mmOp) := [[(1, 0, [3]), (1, 1, [1]), (21, 42, [0, 73]), (15, 0, [1]), (1, 0, [3]), (1, 2, [1]), (21, 42, [0, 73]), (15, 0, [1]), (1, 0, [3]), (10, 2, [11, 29]), (1, 1, [1]), (12, 4, []), (1, 2, [1]), (12, 0, []), (17, 2, [1])], [(0, 1, [-1]), (17, 2, [])], [(20, 1, [])]]
abbrev k_Town_wideOf : Nat := 45
def p_Town_addGap : List Nat := [0, 44]
def b_Town_addGap : List (List mmOp) := [[(1, 0, [3]), (1, 1, [1]), (21, 42, [0, 73]), (15, 0, [1]), (1, 0, [3]), (1, 2, [1]), (21, 42, [0, 73]), (15, 0, [1]), (1, 0, [3]), (10, 2, [11, 29]), (1, 1, [1]), (12, 4, []), (1, 2, [1]), (1, 3, [1]), (13, 0, []), (1, 0, [3]), (10, 2, [11, 29]), (1, 2, [1]), (12, 4, []), (1, 1, [1]), (1, 3, [1]), (13, 0, []), (1, 0, [3]), (9, 0, []), (10, 2, [2, 49]), (0, 1, [1]), (4, 0, []), (11, 2, [2, 49]), (17, 1, [])], [(20, 0, [])]]
abbrev k_Town_addGap : Nat := 46
def p_TownText_readPerson : List Nat := [0, 130, 131, 149]
def b_TownText_readPerson : List (List mmOp) := [[(1, 0, [3]), (1, 0, [3]), (10, 1, [7, 18]), (10, 2, [3, 166]), (0, 1, [6]), (21, 22, [0, 119]), (1, 0, [3]), (21, 25, [0, 122]), (2, 1, [1]), (1, 0, [3]), (10, 1, [7, 18]), (21, 48, [0, 169]), (2, 2, [3]), (1, 0, [3]), (0, 1, [11]), (21, 34, [0, 132]), (1, 2, [3]), (0, 1, [0]), (1, 0, [3]), (0, 1, [1]), (0, 1, [99]), (21, 36, [0, 103]), (13, 0, []), (1, 0, [3]), (0, 1, [12]), (21, 34, [0, 132]), (1, 2, [3]), (0, 1, [1]), (1, 0, [3]), (0, 1, [0]), (0, 1, [9]), (21, 36, [0, 103]), (13, 0, []), (1, 0, [3]), (0, 1, [13]), (21, 34, [0, 132]), (1, 2, [3]), (0, 1, [2]), (1, 0, [3]), (0, 1, [0]), (0, 1, [20]), (21, 36, [0, 103]), (13, 0, []), (1, 0, [3]), (0, 1, [14]), (21, 34, [0, 132]), (1, 2, [3]), (0, 1, [3]), (1, 0, [3]), (0, 1, [0]), (0, 1, [9]), (21, 36, [0, 103]), (13, 0, []), (1, 0, [3]), (0, 1, [15]), (21, 34, [0, 132]), (1, 2, [3]), (0, 1, [4]), (1, 0, [3]), (21, 41, [0, 142]), (13, 0, []), (1, 0, [3]), (0, 1, [16]), (21, 34, [0, 132]), (1, 2, [3]), (0, 1, [5]), (1, 0, [3]), (21, 41, [0, 142]), (13, 0, []), (1, 0, [3]), (1, 2, [3]), (0, 1, [4]), (12, 0, []), (1, 2, [3]), (0, 1, [5]), (12, 0, []), (16, 1, [1]), (0, 1, [1]), (17, 2, [1])], [(0, 1, [0]), (17, 2, [])], [(21, 31, [0, 153]), (1, 0, [3]), (10, 1, [0, 61]), (15, 1, [3]), (1, 0, [3]), (10, 1, [7, 18]), (1, 1, [1]), (21, 49, [0, 173]), (17, 3, [])], [(20, 0, [])]]
abbrev k_TownText_readPerson : Nat := 47
def p_Town_nextPersonRow : List Nat := [0]
def b_Town_nextPersonRow : List (List mmOp) := [[(1, 0, [3]), (10, 2, [10, 26]), (1, 0, [3]), (10, 2, [3, 52]), (0, 1, [5]), (31, 1, [0, 77]), (12, 4, []), (20, 3, [])]]
abbrev k_Town_nextPersonRow : Nat := 48
def p_Town_addPerson : List Nat := [0, 29]
def b_Town_addPerson : List (List mmOp) := [[(1, 0, [3]), (10, 2, [3, 52]), (0, 1, [6]), (16, 3, [1]), (1, 0, [3]), (10, 2, [8, 18]), (1, 0, [3]), (10, 2, [3, 52]), (1, 1, [1]), (13, 0, []), (1, 0, [3]), (9, 0, []), (10, 2, [3, 52]), (0, 1, [1]), (4, 0, []), (11, 2, [3, 52]), (17, 1, [])], [(20, 0, [])]]
abbrev k_Town_addPerson : Nat := 49
def p_TownText_readLaw : List Nat := [0, 41, 85]
def b_TownText_readLaw : List (List mmOp) := [[(1, 0, [3]), (1, 0, [3]), (10, 1, [7, 18]), (10, 2, [12, 176]), (10, 3, [0, 180]), (0, 1, [8]), (21, 22, [0, 119]), (1, 0, [3]), (21, 35, [0, 135]), (2, 2, [1]), (1, 0, [3]), (10, 1, [7, 18]), (10, 2, [12, 176]), (10, 3, [1, 185]), (2, 3, [1]), (1, 1, [1]), (15, 0, [1]), (1, 0, [3]), (0, 1, [0]), (21, 51, [0, 186]), (17, 1, [])], [(1, 0, [3]), (0, 1, [19]), (21, 34, [0, 132]), (1, 0, [3]), (10, 1, [7, 18]), (10, 2, [12, 176]), (10, 3, [1, 185]), (2, 4, [1]), (1, 0, [3]), (0, 1, [0]), (21, 60, [0, 189]), (1, 0, [3]), (10, 1, [0, 61]), (15, 1, [2]), (1, 0, [3]), (10, 1, [7, 18]), (10, 2, [12, 176]), (1, 2, [1]), (1, 3, [1]), (1, 4, [1]), (21, 64, [0, 192]), (17, 2, [])], [(20, 0, [])]]
abbrev k_TownText_readLaw : Nat := 50
def p_TownText_sum : List Nat := [0, 7, 73]
def b_TownText_sum : List (List mmOp) := [[(1, 0, [3]), (1, 1, [1]), (21, 52, [0, 213]), (0, 1, [0]), (2, 2, [1]), (17, 1, [])], [(1, 2, [1]), (0, 1, [1600]), (16, 3, [2]), (1, 0, [3]), (10, 1, [0, 61]), (15, 1, [2]), (1, 0, [3]), (0, 1, [43]), (0, 1, [45]), (21, 59, [0, 216]), (15, 0, [2]), (1, 0, [3]), (21, 37, [0, 207]), (2, 3, [1]), (1, 0, [3]), (9, 0, []), (10, 1, [4, 55]), (0, 1, [1]), (4, 0, []), (11, 1, [4, 55]), (1, 0, [3]), (1, 1, [1]), (21, 52, [0, 213]), (1, 0, [3]), (10, 1, [7, 18]), (10, 2, [12, 176]), (0, 1, [10000]), (1, 3, [1]), (4, 0, []), (21, 54, [0, 198]), (3, 2, [1]), (17, 1, [1])], [(20, 0, [])]]
abbrev k_TownText_sum : Nat := 51
def p_TownText_product : List Nat := [0, 7, 73]
def b_TownText_product : List (List mmOp) := [[(1, 0, [3]), (1, 1, [1]), (21, 53, [0, 220]), (0, 1, [0]), (2, 2, [1]), (17, 1, [])], [(1, 2, [1]), (0, 1, [1600]), (16, 3, [2]), (1, 0, [3]), (10, 1, [0, 61]), (15, 1, [2]), (1, 0, [3]), (0, 1, [42]), (0, 1, [47]), (21, 59, [0, 216]), (15, 0, [2]), (1, 0, [3]), (21, 37, [0, 207]), (2, 3, [1]), (1, 0, [3]), (9, 0, []), (10, 1, [4, 55]), (0, 1, [1]), (4, 0, []), (11, 1, [4, 55]), (1, 0, [3]), (1, 1, [1]), (21, 53, [0, 220]), (1, 0, [3]), (10, 1, [7, 18]), (10, 2, [12, 176]), (0, 1, [10000]), (1, 3, [1]), (4, 0, []), (21, 54, [0, 198]), (3, 2, [1]), (17, 1, [1])], [(20, 0, [])]]
abbrev k_TownText_product : Nat := 52
def p_TownText_part : List Nat := [0, 8, 44, 83, 95, 122, 151, 160]
def b_TownText_part : List (List mmOp) := [[(1, 0, [3]), (10, 1, [0, 61]), (15, 0, [1]), (20, 0, [])], [(1, 0, [3]), (21, 17, [0, 75]), (2, 2, [1]), (1, 0, [3]), (21, 37, [0, 207]), (21, 38, [1, 223]), (15, 0, [2]), (1, 0, [3]), (10, 1, [7, 18]), (10, 2, [12, 176]), (1, 0, [3]), (0, 1, [0]), (0, 1, [9999]), (21, 36, [0, 103]), (21, 54, [0, 198]), (17, 7, [1])], [(1, 0, [3]), (21, 37, [0, 207]), (0, 1, [40]), (16, 1, [3]), (1, 0, [3]), (1, 1, [1]), (21, 55, [0, 204]), (15, 0, [7]), (1, 0, [3]), (0, 1, [40]), (21, 56, [0, 112]), (1, 0, [3]), (1, 1, [1]), (0, 1, [1]), (4, 0, []), (21, 51, [0, 186]), (1, 0, [3]), (0, 1, [41]), (21, 56, [0, 112]), (17, 7, [1])], [(1, 2, [1]), (0, 1, [27]), (16, 0, [4]), (1, 2, [1]), (0, 1, [28]), (16, 1, [5]), (17, 4, [])], [(1, 0, [3]), (21, 24, [0, 100]), (1, 0, [3]), (1, 1, [1]), (21, 57, [0, 226]), (1, 0, [3]), (10, 1, [7, 18]), (10, 2, [12, 176]), (0, 1, [10200]), (1, 2, [1]), (4, 0, []), (21, 54, [0, 198]), (17, 7, [1])], [(1, 2, [1]), (21, 58, [1, 229]), (15, 0, [6]), (1, 0, [3]), (21, 24, [0, 100]), (1, 0, [3]), (10, 1, [7, 18]), (10, 2, [12, 176]), (0, 1, [10200]), (1, 2, [1]), (4, 0, []), (21, 54, [0, 198]), (17, 7, [1])], [(1, 0, [3]), (0, 1, [1]), (1, 0, [3]), (10, 1, [4, 55]), (21, 23, [0, 71]), (17, 7, [])], [(20, 0, [])]]
abbrev k_TownText_part : Nat := 53
def p_Laws_put : List Nat := [0, 30]
def b_Laws_put : List (List mmOp) := [[(1, 0, [3]), (10, 3, [1, 34]), (0, 1, [1600]), (16, 3, [1]), (1, 0, [3]), (10, 3, [6, 24]), (1, 0, [3]), (10, 3, [1, 34]), (1, 1, [1]), (13, 0, []), (1, 0, [3]), (9, 0, []), (10, 3, [1, 34]), (0, 1, [1]), (4, 0, []), (11, 3, [1, 34]), (17, 1, [])], [(20, 0, [])]]
abbrev k_Laws_put : Nat := 54
def p_TownText_mayOpen : List Nat := [0, 15, 26, 27]
def b_TownText_mayOpen : List (List mmOp) := [[(1, 1, [1]), (0, 1, [6]), (16, 2, [1]), (1, 0, [3]), (0, 1, [4]), (1, 0, [3]), (10, 1, [4, 55]), (21, 23, [0, 71]), (17, 1, [])], [(1, 0, [3]), (10, 1, [0, 61]), (15, 1, [2]), (0, 1, [1]), (17, 3, [1])], [(0, 1, [0]), (17, 3, [])], [(20, 4, [])]]
abbrev k_TownText_mayOpen : Nat := 55
def p_TownText_takeSign : List Nat := [0, 25, 34]
def b_TownText_takeSign : List (List mmOp) := [[(1, 0, [3]), (21, 15, [0, 64]), (1, 0, [3]), (21, 37, [0, 207]), (1, 1, [1]), (16, 1, [1]), (1, 0, [3]), (9, 0, []), (10, 1, [4, 55]), (0, 1, [1]), (4, 0, []), (11, 1, [4, 55]), (17, 2, [1])], [(1, 0, [3]), (0, 1, [1]), (1, 0, [3]), (10, 1, [4, 55]), (21, 23, [0, 71]), (17, 2, [])], [(20, 0, [])]]
abbrev k_TownText_takeSign : Nat := 56
def p_TownText_pair : List Nat := [0, 25, 65]
def b_TownText_pair : List (List mmOp) := [[(1, 0, [3]), (21, 15, [0, 64]), (1, 0, [3]), (21, 37, [0, 207]), (0, 1, [40]), (16, 0, [1]), (1, 0, [3]), (0, 1, [1]), (1, 0, [3]), (10, 1, [4, 55]), (21, 23, [0, 71]), (17, 2, [1])], [(1, 0, [3]), (1, 1, [1]), (21, 55, [0, 204]), (15, 0, [2]), (1, 0, [3]), (0, 1, [40]), (21, 56, [0, 112]), (1, 0, [3]), (1, 1, [1]), (0, 1, [1]), (4, 0, []), (21, 51, [0, 186]), (1, 0, [3]), (0, 1, [44]), (21, 56, [0, 112]), (1, 0, [3]), (1, 1, [1]), (0, 1, [1]), (4, 0, []), (21, 51, [0, 186]), (1, 0, [3]), (0, 1, [41]), (21, 56, [0, 112]), (17, 2, [])], [(20, 0, [])]]
abbrev k_TownText_pair : Nat := 57
def p_TownText_isFactWord : List Nat := [0, 28, 32, 33]
def b_TownText_isFactWord : List (List mmOp) := [[(1, 0, [1]), (0, 1, [11]), (16, 0, [1]), (1, 0, [1]), (0, 1, [14]), (16, 0, [1]), (1, 0, [1]), (0, 1, [3]), (16, 0, [1]), (1, 0, [1]), (0, 1, [4]), (16, 0, [1]), (1, 0, [1]), (0, 1, [22]), (16, 1, [2]), (17, 1, [])], [(0, 1, [1]), (17, 3, [1])], [(0, 1, [0]), (17, 3, [])], [(20, 4, [])]]
abbrev k_TownText_isFactWord : Nat := 58
def p_TownText_isHere : List Nat := [0, 20, 24, 25]
def b_TownText_isHere : List (List mmOp) := [[(1, 0, [3]), (21, 15, [0, 64]), (1, 0, [3]), (21, 37, [0, 207]), (1, 1, [1]), (16, 0, [1]), (1, 0, [3]), (21, 37, [0, 207]), (1, 2, [1]), (16, 1, [2]), (17, 1, [])], [(0, 1, [1]), (17, 3, [1])], [(0, 1, [0]), (17, 3, [])], [(20, 4, [])]]
abbrev k_TownText_isHere : Nat := 59
def p_TownText_test : List Nat := [0, 7, 58]
def b_TownText_test : List (List mmOp) := [[(1, 0, [3]), (1, 1, [1]), (21, 61, [0, 195]), (0, 1, [0]), (2, 2, [1]), (17, 1, [])], [(1, 2, [1]), (0, 1, [1600]), (16, 3, [2]), (1, 0, [3]), (10, 1, [0, 61]), (15, 1, [2]), (1, 0, [3]), (21, 17, [0, 75]), (0, 1, [23]), (16, 1, [2]), (1, 0, [3]), (21, 24, [0, 100]), (1, 0, [3]), (1, 1, [1]), (21, 61, [0, 195]), (1, 0, [3]), (10, 1, [7, 18]), (10, 2, [12, 176]), (0, 1, [10223]), (21, 54, [0, 198]), (3, 2, [1]), (17, 1, [1])], [(20, 0, [])]]
abbrev k_TownText_test : Nat := 60
def p_TownText_both : List Nat := [0, 7, 58]
def b_TownText_both : List (List mmOp) := [[(1, 0, [3]), (1, 1, [1]), (21, 62, [0, 201]), (0, 1, [0]), (2, 2, [1]), (17, 1, [])], [(1, 2, [1]), (0, 1, [1600]), (16, 3, [2]), (1, 0, [3]), (10, 1, [0, 61]), (15, 1, [2]), (1, 0, [3]), (21, 17, [0, 75]), (0, 1, [24]), (16, 1, [2]), (1, 0, [3]), (21, 24, [0, 100]), (1, 0, [3]), (1, 1, [1]), (21, 62, [0, 201]), (1, 0, [3]), (10, 1, [7, 18]), (10, 2, [12, 176]), (0, 1, [10224]), (21, 54, [0, 198]), (3, 2, [1]), (17, 1, [1])], [(20, 0, [])]]
abbrev k_TownText_both : Nat := 61
def p_TownText_fact : List Nat := [0, 8, 54, 80, 119, 124]
def b_TownText_fact : List (List mmOp) := [[(1, 0, [3]), (10, 1, [0, 61]), (15, 0, [1]), (20, 0, [])], [(1, 0, [3]), (21, 17, [0, 75]), (2, 2, [1]), (1, 2, [1]), (0, 1, [25]), (16, 1, [2]), (1, 0, [3]), (1, 1, [1]), (21, 55, [0, 204]), (15, 0, [5]), (1, 0, [3]), (21, 24, [0, 100]), (1, 0, [3]), (1, 1, [1]), (0, 1, [1]), (4, 0, []), (21, 62, [0, 201]), (1, 0, [3]), (10, 1, [7, 18]), (10, 2, [12, 176]), (0, 1, [10225]), (21, 54, [0, 198]), (17, 5, [1])], [(1, 2, [1]), (0, 1, [26]), (16, 1, [3]), (1, 0, [3]), (21, 24, [0, 100]), (1, 0, [3]), (10, 1, [7, 18]), (10, 2, [12, 176]), (0, 1, [10226]), (21, 54, [0, 198]), (17, 5, [1])], [(1, 0, [3]), (21, 37, [0, 207]), (0, 1, [91]), (16, 1, [4]), (1, 0, [3]), (1, 1, [1]), (21, 55, [0, 204]), (15, 0, [5]), (1, 0, [3]), (0, 1, [91]), (21, 56, [0, 112]), (1, 0, [3]), (1, 1, [1]), (0, 1, [1]), (4, 0, []), (21, 60, [0, 189]), (1, 0, [3]), (0, 1, [93]), (21, 56, [0, 112]), (17, 5, [1])], [(1, 0, [3]), (1, 1, [1]), (21, 63, [0, 210]), (17, 5, [])], [(20, 0, [])]]
abbrev k_TownText_fact : Nat := 62
def p_TownText_comparison : List Nat := [0, 32, 65, 74]
def b_TownText_comparison : List (List mmOp) := [[(1, 0, [3]), (1, 1, [1]), (21, 51, [0, 186]), (1, 0, [3]), (21, 15, [0, 64]), (1, 0, [3]), (21, 37, [0, 207]), (2, 2, [1]), (1, 2, [1]), (0, 1, [60]), (16, 0, [1]), (1, 2, [1]), (0, 1, [62]), (16, 0, [1]), (1, 2, [1]), (0, 1, [61]), (16, 1, [2]), (17, 1, [])], [(1, 0, [3]), (9, 0, []), (10, 1, [4, 55]), (0, 1, [1]), (4, 0, []), (11, 1, [4, 55]), (1, 0, [3]), (1, 1, [1]), (21, 51, [0, 186]), (1, 0, [3]), (10, 1, [7, 18]), (10, 2, [12, 176]), (0, 1, [10000]), (1, 2, [1]), (4, 0, []), (21, 54, [0, 198]), (17, 3, [1])], [(1, 0, [3]), (0, 1, [1]), (1, 0, [3]), (10, 1, [4, 55]), (21, 23, [0, 71]), (17, 3, [])], [(20, 0, [])]]
abbrev k_TownText_comparison : Nat := 63
def p_Laws_add : List Nat := [0, 62]
def b_Laws_add : List (List mmOp) := [[(1, 0, [3]), (10, 3, [0, 30]), (0, 1, [8]), (16, 3, [1]), (1, 0, [3]), (10, 3, [2, 9]), (1, 0, [3]), (10, 3, [0, 30]), (1, 1, [1]), (13, 0, []), (1, 0, [3]), (10, 3, [3, 15]), (1, 0, [3]), (10, 3, [0, 30]), (1, 2, [1]), (13, 0, []), (1, 0, [3]), (10, 3, [4, 18]), (1, 0, [3]), (10, 3, [0, 30]), (1, 3, [1]), (13, 0, []), (1, 0, [3]), (10, 3, [5, 21]), (1, 0, [3]), (10, 3, [0, 30]), (1, 0, [3]), (10, 3, [1, 34]), (13, 0, []), (1, 0, [3]), (9, 0, []), (10, 3, [0, 30]), (0, 1, [1]), (4, 0, []), (11, 3, [0, 30]), (17, 1, [])], [(20, 0, [])]]
abbrev k_Laws_add : Nat := 64
def p_TownText_close : List Nat := [0, 16]
def b_TownText_close : List (List mmOp) := [[(1, 0, [3]), (21, 14, [0, 67]), (15, 0, [1]), (1, 0, [3]), (0, 1, [5]), (1, 0, [3]), (10, 1, [4, 55]), (21, 23, [0, 71]), (17, 1, [])], [(20, 0, [])]]
abbrev k_TownText_close : Nat := 65
def p_TownText_handOver : List Nat := [0]
def b_TownText_handOver : List (List mmOp) := [[(1, 0, [3]), (10, 1, [7, 18]), (2, 2, [3]), (1, 0, [3]), (1, 1, [3]), (11, 1, [7, 18]), (1, 2, [3]), (20, 3, [])]]
abbrev k_TownText_handOver : Nat := 66
def p_Roofs_begin : List Nat := [0, 17, 45, 47, 89, 91, 109]
def b_Roofs_begin : List (List mmOp) := [[(1, 0, [3]), (0, 1, [0]), (11, 4, [0, 29]), (1, 0, [3]), (0, 1, [0]), (11, 4, [1, 33]), (1, 0, [3]), (0, 1, [0]), (11, 4, [2, 36]), (0, 1, [0]), (2, 2, [1]), (17, 1, [])], [(1, 2, [1]), (1, 1, [3]), (10, 2, [1, 39]), (16, 3, [2]), (1, 0, [3]), (10, 4, [3, 9]), (1, 2, [1]), (1, 1, [3]), (10, 2, [9, 44]), (1, 2, [1]), (12, 4, []), (0, 1, [2]), (12, 0, []), (13, 0, []), (3, 2, [1]), (17, 1, [1])], [(0, 1, [0]), (2, 2, [1]), (17, 3, [])], [(1, 2, [1]), (1, 1, [3]), (10, 2, [3, 47]), (16, 3, [4]), (1, 0, [3]), (10, 4, [4, 15]), (1, 2, [1]), (1, 1, [3]), (10, 2, [10, 50]), (1, 2, [1]), (12, 4, []), (0, 1, [4]), (12, 0, []), (13, 0, []), (1, 0, [3]), (10, 4, [5, 18]), (1, 2, [1]), (1, 1, [3]), (10, 2, [10, 50]), (1, 2, [1]), (12, 4, []), (0, 1, [5]), (12, 0, []), (13, 0, []), (3, 2, [1]), (17, 3, [1])], [(0, 1, [0]), (2, 2, [1]), (17, 5, [])], [(1, 2, [1]), (0, 1, [5]), (16, 3, [6]), (1, 0, [3]), (10, 4, [6, 21]), (1, 2, [1]), (0, 1, [0]), (13, 0, []), (3, 2, [1]), (17, 5, [1])], [(20, 0, [])]]
abbrev k_Roofs_begin : Nat := 67
def p_c_fault : List Nat := [0, 12, 27, 28]
def b_c_fault : List (List mmOp) := [[(1, 1, [1]), (15, 1, [1]), (1, 0, [3]), (10, 0, [2, 16]), (10, 1, [0, 73]), (20, 1, [])], [(1, 1, [1]), (0, 1, [1]), (16, 1, [2]), (1, 0, [3]), (10, 0, [2, 16]), (10, 1, [1, 87]), (17, 3, [1])], [(0, 1, [-1]), (17, 3, [])], [(20, 1, [])]]
abbrev k_c_fault : Nat := 68
def p_c_has : List Nat := [0, 68, 76, 84, 92, 100, 111, 119, 127, 135, 143, 158, 176, 184, 189]
def b_c_has : List (List mmOp) := [[(1, 1, [1]), (18, 0, [14, 1, 2, 3, 4, 5, 6, 7, 8, 9, 10, 11, 12, 13])], [(1, 0, [3]), (10, 0, [3, 23]), (10, 2, [0, 90]), (20, 1, [])], [(1, 0, [3]), (10, 0, [3, 23]), (10, 2, [1, 93]), (20, 1, [])], [(1, 0, [3]), (10, 0, [3, 23]), (10, 2, [2, 96]), (20, 1, [])], [(1, 0, [3]), (10, 0, [3, 23]), (10, 2, [3, 99]), (20, 1, [])], [(1, 0, [3]), (10, 0, [3, 23]), (10, 2, [12, 102]), (10, 3, [0, 106]), (20, 1, [])], [(1, 0, [3]), (10, 0, [3, 23]), (10, 2, [4, 111]), (20, 1, [])], [(1, 0, [3]), (10, 0, [3, 23]), (10, 2, [5, 114]), (20, 1, [])], [(1, 0, [3]), (10, 0, [4, 30]), (10, 4, [0, 117]), (20, 1, [])], [(1, 0, [3]), (10, 0, [4, 30]), (10, 4, [1, 120]), (20, 1, [])], [(1, 0, [3]), (10, 0, [4, 30]), (1, 0, [3]), (10, 0, [3, 23]), (21, 70, [0, 123]), (21, 71, [0, 127]), (20, 1, [])], [(1, 0, [3]), (10, 0, [4, 30]), (1, 0, [3]), (10, 0, [3, 23]), (10, 2, [1, 93]), (21, 72, [0, 131]), (21, 73, [1, 134]), (20, 1, [])], [(1, 0, [3]), (10, 0, [4, 30]), (10, 4, [2, 139]), (20, 1, [])], [(1, 0, [3]), (10, 0, [7, 84]), (20, 1, [])], [(0, 1, [-1]), (20, 1, [])]]
abbrev k_c_has : Nat := 69
def p_Town_allLots : List Nat := [0]
def b_Town_allLots : List (List mmOp) := [[(0, 1, [1]), (1, 0, [3]), (10, 2, [1, 46]), (4, 6, []), (0, 1, [1]), (4, 1, []), (20, 1, [])]]
abbrev k_Town_allLots : Nat := 70
def p_Roofs_tilesOf : List Nat := [0, 4, 28, 34]
def b_Roofs_tilesOf : List (List mmOp) := [[(0, 1, [0]), (2, 2, [1]), (0, 1, [0]), (2, 3, [1]), (17, 1, [])], [(1, 3, [1]), (0, 1, [10]), (16, 3, [3]), (1, 1, [1]), (1, 3, [1]), (4, 7, []), (0, 1, [1]), (4, 3, []), (0, 1, [1]), (16, 1, [2]), (1, 2, [1]), (1, 0, [3]), (10, 4, [3, 9]), (1, 3, [1]), (12, 0, []), (4, 0, []), (2, 2, [1]), (17, 2, [])], [(3, 3, [1]), (17, 1, [1])], [(1, 2, [1]), (20, 1, [])]]
abbrev k_Roofs_tilesOf : Nat := 71
def p_Roofs_holes : List Nat := [0, 4, 24, 30]
def b_Roofs_holes : List (List mmOp) := [[(0, 1, [0]), (2, 2, [1]), (0, 1, [0]), (2, 3, [1]), (17, 1, [])], [(1, 3, [1]), (1, 1, [1]), (16, 3, [3]), (1, 0, [3]), (10, 4, [3, 9]), (1, 3, [1]), (12, 0, []), (15, 1, [2]), (1, 2, [1]), (0, 1, [1]), (1, 3, [1]), (4, 6, []), (4, 4, []), (2, 2, [1]), (17, 2, [])], [(3, 3, [1]), (17, 1, [1])], [(1, 2, [1]), (20, 1, [])]]
abbrev k_Roofs_holes : Nat := 72
def p_jInteger_bitCount : List Nat := [0]
def b_jInteger_bitCount : List (List mmOp) := [[(1, 0, [1]), (1, 0, [1]), (0, 1, [1]), (4, 8, []), (0, 1, [1431655765, 265]), (4, 3, []), (4, 1, []), (2, 0, [1]), (1, 0, [1]), (0, 1, [858993459, 266]), (4, 3, []), (1, 0, [1]), (0, 1, [2]), (4, 8, []), (0, 1, [858993459, 266]), (4, 3, []), (4, 0, []), (2, 0, [1]), (1, 0, [1]), (1, 0, [1]), (0, 1, [4]), (4, 8, []), (4, 0, []), (0, 1, [252645135, 267]), (4, 3, []), (2, 0, [1]), (1, 0, [1]), (1, 0, [1]), (0, 1, [8]), (4, 8, []), (4, 0, []), (2, 0, [1]), (1, 0, [1]), (1, 0, [1]), (0, 1, [16]), (4, 8, []), (4, 0, []), (2, 0, [1]), (1, 0, [1]), (0, 1, [63]), (4, 3, []), (20, 1, [])]]
abbrev k_jInteger_bitCount : Nat := 73
def p_c_letter : List Nat := [0, 10, 12, 44, 74, 101, 110, 119]
def b_c_letter : List (List mmOp) := [[(1, 3, [1]), (15, 2, [1]), (1, 3, [1]), (0, 1, [6]), (16, 2, [2]), (17, 1, [])], [(0, 1, [-1]), (20, 1, [])], [(0, 1, [0]), (2, 4, [1]), (1, 1, [1]), (15, 1, [3]), (1, 0, [3]), (10, 0, [3, 23]), (1, 2, [1]), (21, 75, [0, 142]), (15, 0, [3]), (1, 0, [3]), (10, 0, [3, 23]), (10, 2, [6, 146]), (1, 2, [1]), (12, 0, []), (2, 4, [1]), (17, 5, [1])], [(1, 1, [1]), (0, 1, [1]), (16, 1, [4]), (1, 0, [3]), (10, 0, [3, 23]), (1, 2, [1]), (21, 42, [0, 149]), (15, 0, [4]), (1, 0, [3]), (10, 0, [3, 23]), (10, 2, [7, 152]), (1, 2, [1]), (12, 0, []), (2, 4, [1]), (17, 5, [1])], [(1, 1, [1]), (0, 1, [2]), (16, 1, [5]), (1, 0, [3]), (10, 0, [3, 23]), (1, 2, [1]), (21, 76, [0, 155]), (15, 0, [5]), (1, 0, [3]), (10, 0, [3, 23]), (10, 2, [8, 158]), (1, 2, [1]), (12, 0, []), (2, 4, [1]), (17, 5, [])], [(1, 4, [1]), (15, 1, [6]), (0, 1, [-1]), (17, 7, [1])], [(1, 4, [1]), (0, 1, [5]), (1, 3, [1]), (4, 2, []), (4, 7, []), (0, 1, [31]), (4, 3, []), (17, 7, [])], [(20, 1, [])]]
abbrev k_c_letter : Nat := 74
def p_Town_isOwner : List Nat := [0, 16, 17]
def b_Town_isOwner : List (List mmOp) := [[(1, 1, [1]), (15, 2, [1]), (1, 1, [1]), (1, 0, [3]), (10, 2, [0, 42]), (16, 3, [1]), (0, 1, [1]), (17, 2, [1])], [(0, 1, [0]), (17, 2, [])], [(20, 4, [])]]
abbrev k_Town_isOwner : Nat := 75
def p_Town_isPerson : List Nat := [0, 16, 17]
def b_Town_isPerson : List (List mmOp) := [[(1, 1, [1]), (15, 2, [1]), (1, 1, [1]), (1, 0, [3]), (10, 2, [3, 52]), (16, 3, [1]), (0, 1, [1]), (17, 2, [1])], [(0, 1, [0]), (17, 2, [])], [(20, 4, [])]]
abbrev k_Town_isPerson : Nat := 76
def p_c_lot : List Nat := [0, 13, 56, 68, 78, 84, 96, 97, 98]
def b_c_lot : List (List mmOp) := [[(1, 0, [3]), (10, 0, [3, 23]), (1, 1, [1]), (21, 42, [0, 149]), (15, 1, [1]), (0, 1, [-1]), (20, 1, [])], [(1, 2, [1]), (18, 0, [8, 2, 2, 3, 2, 2, 4, 5])], [(1, 0, [3]), (10, 0, [3, 23]), (10, 2, [9, 161]), (1, 1, [1]), (12, 4, []), (1, 2, [1]), (12, 0, []), (20, 1, [])], [(1, 0, [3]), (10, 0, [4, 30]), (10, 4, [3, 165]), (1, 1, [1]), (12, 0, []), (20, 1, [])], [(1, 0, [3]), (1, 1, [1]), (21, 78, [0, 168]), (20, 1, [])], [(1, 0, [3]), (1, 1, [1]), (21, 79, [0, 171]), (15, 0, [6]), (0, 1, [1]), (17, 7, [1])], [(0, 1, [0]), (17, 7, [])], [(20, 1, [])], [(0, 1, [-1]), (20, 1, [])]]
abbrev k_c_lot : Nat := 77
def p_c_guests : List Nat := [0, 4, 31, 37]
def b_c_guests : List (List mmOp) := [[(0, 1, [0]), (2, 2, [1]), (0, 1, [0]), (2, 3, [1]), (17, 1, [])], [(1, 3, [1]), (1, 0, [3]), (10, 0, [3, 23]), (10, 2, [3, 99]), (16, 3, [3]), (1, 0, [3]), (10, 0, [4, 30]), (10, 4, [4, 174]), (1, 3, [1]), (12, 0, []), (1, 1, [1]), (16, 1, [2]), (3, 2, [1]), (17, 2, [])], [(3, 3, [1]), (17, 1, [1])], [(1, 2, [1]), (20, 1, [])]]
abbrev k_c_guests : Nat := 78
def p_c_isFull : List Nat := [0, 29, 30]
def b_c_isFull : List (List mmOp) := [[(1, 0, [3]), (10, 0, [3, 23]), (10, 2, [9, 161]), (1, 1, [1]), (12, 4, []), (0, 1, [3]), (12, 0, []), (2, 2, [1]), (1, 2, [1]), (15, 5, [1]), (1, 0, [3]), (1, 1, [1]), (21, 78, [0, 168]), (1, 2, [1]), (16, 2, [1]), (0, 1, [1]), (17, 2, [1])], [(0, 1, [0]), (17, 2, [])], [(20, 4, [])]]
abbrev k_c_isFull : Nat := 79
def p_c_gap : List Nat := [0]
def b_c_gap : List (List mmOp) := [[(1, 0, [3]), (10, 0, [3, 23]), (1, 1, [1]), (1, 2, [1]), (21, 45, [0, 177]), (20, 1, [])]]
abbrev k_c_gap : Nat := 80
def p_c_person : List Nat := [0, 13, 56, 68, 78, 88, 97]
def b_c_person : List (List mmOp) := [[(1, 0, [3]), (10, 0, [3, 23]), (1, 1, [1]), (21, 76, [0, 155]), (15, 1, [1]), (0, 1, [-1]), (20, 1, [])], [(1, 2, [1]), (18, 0, [6, 2, 2, 2, 2, 3, 4, 5])], [(1, 0, [3]), (10, 0, [3, 23]), (10, 2, [10, 181]), (1, 1, [1]), (12, 4, []), (1, 2, [1]), (12, 0, []), (20, 1, [])], [(1, 0, [3]), (10, 0, [4, 30]), (10, 4, [4, 174]), (1, 1, [1]), (12, 0, []), (20, 1, [])], [(1, 0, [3]), (10, 0, [4, 30]), (10, 4, [5, 184]), (1, 1, [1]), (12, 0, []), (20, 1, [])], [(1, 0, [3]), (10, 0, [4, 30]), (1, 1, [1]), (21, 82, [0, 187]), (20, 1, [])], [(0, 1, [-1]), (20, 1, [])]]
abbrev k_c_person : Nat := 81
def p_Roofs_ledTo : List Nat := [0, 4, 27, 33]
def b_Roofs_ledTo : List (List mmOp) := [[(0, 1, [0]), (2, 2, [1]), (0, 1, [0]), (2, 3, [1]), (17, 1, [])], [(1, 3, [1]), (1, 0, [3]), (10, 4, [2, 36]), (16, 3, [3]), (1, 0, [3]), (10, 4, [7, 26]), (0, 1, [2]), (12, 4, []), (1, 3, [1]), (12, 0, []), (1, 1, [1]), (16, 1, [2]), (3, 2, [1]), (17, 2, [])], [(3, 3, [1]), (17, 1, [1])], [(1, 2, [1]), (20, 1, [])]]
abbrev k_Roofs_ledTo : Nat := 82
def p_c_purse : List Nat := [0, 23, 25]
def b_c_purse : List (List mmOp) := [[(1, 0, [3]), (10, 0, [3, 23]), (1, 1, [1]), (21, 75, [0, 142]), (15, 0, [1]), (1, 0, [3]), (10, 0, [4, 30]), (10, 4, [6, 190]), (1, 1, [1]), (12, 0, []), (17, 2, [1])], [(0, 1, [-1000000000, 193]), (17, 2, [])], [(20, 1, [])]]
abbrev k_c_purse : Nat := 83
def p_c_toll : List Nat := [0, 22, 25]
def b_c_toll : List (List mmOp) := [[(1, 0, [3]), (10, 0, [3, 23]), (1, 1, [1]), (21, 76, [0, 155]), (15, 0, [1]), (1, 0, [3]), (10, 0, [3, 23]), (1, 2, [1]), (21, 42, [0, 149]), (15, 1, [2]), (17, 1, [])], [(0, 1, [-2]), (20, 1, [])], [(1, 0, [3]), (10, 0, [9, 41]), (1, 0, [3]), (10, 0, [3, 23]), (1, 0, [3]), (10, 0, [4, 30]), (1, 1, [1]), (1, 2, [1]), (1, 0, [3]), (10, 0, [4, 30]), (10, 4, [3, 165]), (1, 2, [1]), (12, 0, []), (21, 85, [0, 194]), (20, 1, [])]]
abbrev k_c_toll : Nat := 84
def p_Walk_tollAt : List Nat := [0, 9]
def b_Walk_tollAt : List (List mmOp) := [[(1, 2, [3]), (10, 4, [1, 55]), (15, 5, [1]), (0, 1, [0]), (20, 1, [])], [(1, 1, [3]), (10, 2, [12, 62]), (1, 1, [3]), (10, 2, [10, 66]), (1, 3, [1]), (12, 4, []), (0, 1, [0]), (12, 0, []), (1, 1, [3]), (10, 2, [10, 66]), (1, 3, [1]), (12, 4, []), (0, 1, [3]), (12, 0, []), (21, 86, [0, 70]), (1, 1, [3]), (10, 2, [12, 62]), (1, 1, [3]), (10, 2, [9, 76]), (1, 4, [1]), (12, 4, []), (0, 1, [1]), (12, 0, []), (1, 5, [1]), (1, 2, [3]), (10, 4, [0, 79]), (21, 87, [0, 82]), (1, 1, [3]), (10, 2, [12, 62]), (1, 1, [3]), (10, 2, [9, 76]), (1, 4, [1]), (12, 4, []), (0, 1, [0]), (12, 0, []), (21, 88, [0, 86]), (20, 1, [])]]
abbrev k_Walk_tollAt : Nat := 85
def p_Laws_setPerson : List Nat := [0]
def b_Laws_setPerson : List (List mmOp) := [[(1, 0, [3]), (1, 1, [1]), (11, 3, [8, 37]), (1, 0, [3]), (1, 2, [1]), (11, 3, [9, 40]), (20, 0, [])]]
abbrev k_Laws_setPerson : Nat := 86
def p_Laws_setPlace : List Nat := [0]
def b_Laws_setPlace : List (List mmOp) := [[(1, 0, [3]), (1, 1, [1]), (11, 3, [10, 43]), (1, 0, [3]), (1, 2, [1]), (11, 3, [11, 46]), (1, 0, [3]), (1, 3, [1]), (11, 3, [12, 49]), (20, 0, [])]]
abbrev k_Laws_setPlace : Nat := 87
def p_Laws_due : List Nat := [0, 4, 31, 32, 54, 80, 82, 88, 95]
def b_Laws_due : List (List mmOp) := [[(0, 1, [-1]), (2, 2, [1]), (0, 1, [0]), (2, 3, [1]), (17, 1, [])], [(1, 3, [1]), (1, 0, [3]), (10, 3, [0, 30]), (16, 3, [7]), (1, 0, [3]), (10, 3, [3, 15]), (1, 3, [1]), (12, 0, []), (1, 0, [3]), (10, 3, [4, 18]), (1, 3, [1]), (12, 0, []), (16, 1, [2]), (0, 1, [1]), (17, 3, [1])], [(0, 1, [0]), (17, 3, [])], [(2, 4, [1]), (1, 0, [3]), (10, 3, [2, 9]), (1, 3, [1]), (12, 0, []), (1, 1, [1]), (16, 1, [6]), (1, 4, [1]), (15, 1, [4]), (1, 2, [1]), (0, 1, [-1]), (16, 1, [6]), (17, 4, [])], [(1, 0, [3]), (1, 0, [3]), (10, 3, [4, 18]), (1, 3, [1]), (12, 0, []), (1, 0, [3]), (10, 3, [5, 21]), (1, 3, [1]), (12, 0, []), (21, 89, [0, 52]), (15, 0, [6]), (1, 4, [1]), (15, 0, [5]), (0, 1, [-1]), (20, 1, [])], [(1, 3, [1]), (2, 2, [1]), (17, 6, [])], [(3, 3, [1]), (17, 1, [1])], [(1, 2, [1]), (0, 1, [-1]), (16, 1, [8]), (0, 1, [0]), (20, 1, [])], [(0, 1, [0]), (0, 1, [999]), (1, 0, [3]), (1, 0, [3]), (10, 3, [3, 15]), (1, 2, [1]), (12, 0, []), (1, 0, [3]), (10, 3, [4, 18]), (1, 2, [1]), (12, 0, []), (21, 89, [0, 52]), (31, 1, [0, 56]), (31, 0, [0, 61]), (20, 1, [])]]
abbrev k_Laws_due : Nat := 88
def p_Laws_valueOf : List Nat := [0, 5, 61, 126, 147, 153, 168, 169]
def b_Laws_valueOf : List (List mmOp) := [[(0, 1, [0]), (2, 3, [1]), (1, 1, [1]), (2, 4, [1]), (17, 1, [])], [(1, 4, [1]), (1, 2, [1]), (16, 3, [5]), (1, 4, [1]), (0, 1, [1600]), (16, 3, [5]), (1, 0, [3]), (10, 3, [6, 24]), (1, 4, [1]), (12, 0, []), (2, 5, [1]), (1, 5, [1]), (0, 1, [10225]), (16, 1, [2]), (1, 3, [1]), (15, 5, [4]), (1, 0, [3]), (10, 3, [7, 27]), (1, 3, [1]), (0, 1, [1]), (4, 1, []), (0, 1, [1]), (1, 0, [3]), (10, 3, [7, 27]), (1, 3, [1]), (0, 1, [1]), (4, 1, []), (12, 0, []), (4, 1, []), (13, 0, []), (17, 4, [1])], [(1, 5, [1]), (21, 90, [1, 64]), (15, 0, [3]), (1, 3, [1]), (0, 1, [1]), (16, 5, [4]), (3, 3, [-1]), (1, 5, [1]), (1, 0, [3]), (10, 3, [7, 27]), (1, 3, [1]), (0, 1, [1]), (4, 1, []), (12, 0, []), (7, 0, []), (1, 0, [3]), (10, 3, [7, 27]), (1, 3, [1]), (12, 0, []), (7, 0, []), (21, 91, [1, 68]), (2, 6, [2]), (1, 0, [3]), (10, 3, [7, 27]), (1, 3, [1]), (0, 1, [1]), (4, 1, []), (0, 2, [-1000000, 72]), (0, 2, [1000000, 74]), (1, 6, [2]), (31, 3, [0, 76]), (31, 2, [0, 79]), (7, 1, []), (13, 0, []), (17, 4, [1])], [(1, 3, [1]), (0, 1, [64]), (16, 3, [4]), (1, 0, [3]), (10, 3, [7, 27]), (1, 3, [1]), (1, 0, [3]), (1, 5, [1]), (21, 92, [0, 81]), (13, 0, []), (3, 3, [1]), (17, 4, [])], [(3, 4, [1]), (17, 1, [1])], [(1, 3, [1]), (15, 5, [6]), (1, 0, [3]), (10, 3, [7, 27]), (1, 3, [1]), (0, 1, [1]), (4, 1, []), (12, 0, []), (17, 7, [1])], [(0, 1, [0]), (17, 7, [])], [(20, 1, [])]]
abbrev k_Laws_valueOf : Nat := 89
def p_Laws_isJoint : List Nat := [0, 40, 42, 60, 61]
def b_Laws_isJoint : List (List mmOp) := [[(1, 0, [1]), (18, 10223, [2, 1, 1, 2, 2, 1, 1])], [(0, 1, [1]), (20, 4, [])], [(1, 0, [1]), (0, 1, [10000]), (16, 2, [3]), (1, 0, [1]), (0, 1, [10200]), (16, 3, [3]), (0, 1, [1]), (17, 4, [1])], [(0, 1, [0]), (17, 4, [])], [(20, 4, [])]]
abbrev k_Laws_isJoint : Nat := 90
def p_Laws_joined : List Nat := [0, 100, 104, 108, 112, 122, 127, 128, 138, 139, 140, 150, 151, 152, 162, 163, 164, 168, 172, 178, 184]
def b_Laws_joined : List (List mmOp) := [[(1, 0, [1]), (19, 0, [20, 10042, 3, 10043, 1, 10045, 2, 10047, 4, 10060, 7, 10061, 13, 10062, 10, 10223, 16, 10224, 17, 10227, 18, 10228, 19])], [(1, 1, [2]), (1, 3, [2]), (5, 0, []), (20, 2, [])], [(1, 1, [2]), (1, 3, [2]), (5, 1, []), (20, 2, [])], [(1, 1, [2]), (1, 3, [2]), (5, 2, []), (20, 2, [])], [(1, 3, [2]), (0, 2, [0]), (8, 0, []), (15, 1, [5]), (0, 2, [0]), (17, 6, [1])], [(1, 1, [2]), (1, 3, [2]), (31, 4, [0, 85]), (17, 6, [])], [(20, 2, [])], [(1, 1, [2]), (1, 3, [2]), (8, 0, []), (15, 3, [8]), (0, 2, [1]), (17, 9, [1])], [(0, 2, [0]), (17, 9, [])], [(20, 2, [])], [(1, 1, [2]), (1, 3, [2]), (8, 0, []), (15, 5, [11]), (0, 2, [1]), (17, 12, [1])], [(0, 2, [0]), (17, 12, [])], [(20, 2, [])], [(1, 1, [2]), (1, 3, [2]), (8, 0, []), (15, 1, [14]), (0, 2, [1]), (17, 15, [1])], [(0, 2, [0]), (17, 15, [])], [(20, 2, [])], [(1, 1, [2]), (1, 3, [2]), (5, 4, []), (20, 2, [])], [(1, 1, [2]), (1, 3, [2]), (5, 3, []), (20, 2, [])], [(1, 1, [2]), (1, 3, [2]), (31, 3, [0, 76]), (20, 2, [])], [(1, 1, [2]), (1, 3, [2]), (31, 2, [0, 79]), (20, 2, [])], [(0, 2, [0]), (20, 2, [])]]
abbrev k_Laws_joined : Nat := 91
def p_Laws_single : List Nat := [0, 60, 65, 70, 75, 80, 85, 87]
def b_Laws_single : List (List mmOp) := [[(1, 1, [1]), (19, 0, [7, 10203, 3, 10204, 4, 10211, 1, 10214, 2, 10222, 5, 10226, 6])], [(1, 0, [3]), (10, 3, [8, 37]), (20, 1, [])], [(1, 0, [3]), (10, 3, [9, 40]), (20, 1, [])], [(1, 0, [3]), (10, 3, [10, 43]), (20, 1, [])], [(1, 0, [3]), (10, 3, [11, 46]), (20, 1, [])], [(1, 0, [3]), (10, 3, [12, 49]), (20, 1, [])], [(0, 1, [1]), (20, 1, [])], [(1, 1, [1]), (20, 1, [])]]
abbrev k_Laws_single : Nat := 92
def p_c_step : List Nat := [0, 33, 35]
def b_c_step : List (List mmOp) := [[(1, 0, [3]), (10, 0, [3, 23]), (1, 1, [1]), (21, 76, [0, 155]), (15, 0, [1]), (1, 0, [3]), (10, 0, [3, 23]), (1, 2, [1]), (21, 42, [0, 149]), (15, 0, [1]), (1, 0, [3]), (10, 0, [3, 23]), (1, 3, [1]), (21, 42, [0, 149]), (15, 1, [2]), (17, 1, [])], [(0, 1, [-1]), (20, 1, [])], [(1, 0, [3]), (10, 0, [9, 41]), (1, 0, [3]), (10, 0, [3, 23]), (1, 0, [3]), (10, 0, [4, 30]), (1, 1, [1]), (21, 94, [0, 198]), (1, 0, [3]), (10, 0, [9, 41]), (10, 5, [6, 202]), (1, 2, [1]), (12, 0, []), (1, 0, [3]), (10, 0, [9, 41]), (10, 5, [3, 205]), (4, 3, []), (1, 3, [1]), (4, 7, []), (0, 1, [1]), (4, 3, []), (20, 1, [])]]
abbrev k_c_step : Nat := 93
def p_Walk_look : List Nat := [0, 36, 102, 126]
def b_Walk_look : List (List mmOp) := [[(1, 0, [3]), (1, 1, [3]), (10, 2, [1, 24]), (11, 5, [0, 30]), (1, 0, [3]), (1, 2, [3]), (10, 4, [4, 31]), (1, 3, [1]), (12, 0, []), (11, 5, [1, 36]), (1, 0, [3]), (1, 2, [3]), (10, 4, [5, 39]), (1, 3, [1]), (12, 0, []), (11, 5, [2, 42]), (1, 0, [3]), (0, 1, [0]), (11, 5, [3, 45]), (0, 1, [0]), (2, 4, [1]), (17, 1, [])], [(1, 4, [1]), (1, 0, [3]), (10, 5, [0, 30]), (16, 3, [3]), (1, 0, [3]), (10, 5, [7, 15]), (1, 4, [1]), (1, 0, [3]), (1, 1, [3]), (1, 2, [3]), (1, 3, [1]), (1, 4, [1]), (1, 2, [3]), (10, 4, [3, 48]), (1, 4, [1]), (12, 0, []), (21, 85, [0, 51]), (13, 0, []), (1, 2, [3]), (10, 4, [3, 48]), (1, 4, [1]), (12, 0, []), (15, 5, [2]), (1, 0, [3]), (10, 5, [7, 15]), (1, 4, [1]), (12, 0, []), (0, 1, [-1]), (16, 0, [2]), (1, 0, [3]), (9, 0, []), (10, 5, [3, 45]), (0, 1, [1]), (1, 4, [1]), (4, 6, []), (4, 4, []), (11, 5, [3, 45]), (17, 2, [])], [(1, 0, [3]), (10, 5, [6, 9]), (1, 4, [1]), (1, 1, [3]), (1, 2, [3]), (10, 4, [1, 55]), (1, 3, [1]), (1, 4, [1]), (21, 95, [1, 58]), (13, 0, []), (3, 4, [1]), (17, 1, [1])], [(20, 0, [])]]
abbrev k_Walk_look : Nat := 94
def p_Walk_hopsFrom : List Nat := [0, 26, 97, 103]
def b_Walk_hopsFrom : List (List mmOp) := [[(1, 0, [3]), (10, 2, [10, 66]), (1, 2, [1]), (12, 4, []), (0, 1, [1]), (12, 0, []), (2, 4, [1]), (1, 0, [3]), (10, 2, [10, 66]), (1, 2, [1]), (12, 4, []), (0, 1, [2]), (12, 0, []), (2, 5, [1]), (0, 1, [0]), (2, 6, [1]), (0, 1, [0]), (2, 7, [1]), (17, 1, [])], [(1, 7, [1]), (1, 0, [3]), (10, 2, [1, 24]), (16, 3, [3]), (1, 0, [3]), (10, 2, [11, 90]), (1, 3, [1]), (12, 4, []), (1, 7, [1]), (12, 0, []), (2, 8, [1]), (1, 0, [3]), (10, 2, [9, 76]), (1, 7, [1]), (12, 4, []), (0, 1, [1]), (12, 0, []), (1, 0, [3]), (10, 2, [9, 76]), (1, 3, [1]), (12, 4, []), (0, 1, [1]), (12, 0, []), (4, 1, []), (2, 9, [1]), (1, 8, [1]), (0, 1, [-1]), (16, 0, [2]), (1, 8, [1]), (1, 1, [1]), (4, 1, []), (1, 4, [1]), (16, 4, [2]), (1, 9, [1]), (1, 5, [1]), (16, 4, [2]), (1, 6, [1]), (0, 1, [1]), (1, 7, [1]), (4, 6, []), (4, 4, []), (2, 6, [1]), (17, 2, [])], [(3, 7, [1]), (17, 1, [1])], [(1, 6, [1]), (20, 1, [])]]
abbrev k_Walk_hopsFrom : Nat := 95
def p_c_way : List Nat := [0, 10, 23, 37, 64, 65]
def b_c_way : List (List mmOp) := [[(1, 0, [3]), (1, 1, [1]), (21, 97, [0, 207]), (15, 1, [1]), (0, 1, [-1]), (20, 1, [])], [(1, 2, [1]), (0, 1, [-1]), (16, 1, [2]), (1, 0, [3]), (10, 0, [9, 41]), (10, 5, [4, 210]), (20, 1, [])], [(1, 2, [1]), (0, 1, [20]), (16, 1, [3]), (1, 0, [3]), (10, 0, [9, 41]), (10, 5, [5, 213]), (20, 1, [])], [(1, 2, [1]), (15, 2, [4]), (1, 2, [1]), (1, 0, [3]), (10, 0, [9, 41]), (10, 5, [5, 213]), (16, 3, [4]), (1, 0, [3]), (10, 0, [9, 41]), (10, 5, [8, 216]), (1, 2, [1]), (12, 0, []), (17, 5, [1])], [(0, 1, [-1]), (17, 5, [])], [(20, 1, [])]]
abbrev k_c_way : Nat := 96
def p_c_findsWay : List Nat := [0, 13]
def b_c_findsWay : List (List mmOp) := [[(1, 0, [3]), (10, 0, [3, 23]), (1, 1, [1]), (21, 76, [0, 155]), (15, 1, [1]), (0, 1, [0]), (20, 4, [])], [(1, 0, [3]), (10, 0, [9, 41]), (1, 0, [3]), (10, 0, [3, 23]), (1, 0, [3]), (10, 0, [4, 30]), (1, 1, [1]), (21, 94, [0, 198]), (1, 0, [3]), (10, 0, [9, 41]), (21, 98, [0, 219]), (20, 4, [])]]
abbrev k_c_findsWay : Nat := 97
def p_Walk_seek : List Nat := [0, 20, 48, 91]
def b_Walk_seek : List (List mmOp) := [[(1, 0, [3]), (21, 99, [0, 96]), (1, 0, [3]), (10, 5, [9, 21]), (1, 0, [3]), (10, 5, [1, 36]), (12, 0, []), (0, 1, [1000000000, 99]), (16, 2, [1]), (0, 1, [0]), (20, 4, [])], [(1, 0, [3]), (1, 0, [3]), (10, 5, [9, 21]), (1, 0, [3]), (10, 5, [1, 36]), (12, 0, []), (0, 1, [16]), (6, 0, []), (11, 5, [4, 100]), (1, 0, [3]), (0, 1, [0]), (11, 5, [5, 103]), (1, 0, [3]), (10, 5, [1, 36]), (2, 1, [1]), (0, 1, [0]), (2, 2, [1]), (17, 2, [])], [(1, 2, [1]), (0, 1, [10]), (16, 3, [3]), (1, 1, [1]), (1, 0, [3]), (10, 5, [2, 42]), (16, 0, [3]), (1, 0, [3]), (1, 1, [1]), (21, 101, [0, 106]), (2, 1, [1]), (1, 0, [3]), (10, 5, [8, 18]), (1, 2, [1]), (1, 1, [1]), (13, 0, []), (1, 0, [3]), (9, 0, []), (10, 5, [5, 103]), (0, 1, [1]), (4, 0, []), (11, 5, [5, 103]), (3, 2, [1]), (17, 2, [1])], [(0, 1, [1]), (20, 4, [])]]
abbrev k_Walk_seek : Nat := 98
def p_Walk_measureRest : List Nat := [0, 2, 22, 36, 50, 61, 101, 107, 113, 119]
def b_Walk_measureRest : List (List mmOp) := [[(0, 1, [0]), (2, 1, [1]), (17, 1, [])], [(1, 1, [1]), (0, 1, [10]), (16, 3, [2]), (1, 0, [3]), (10, 5, [9, 21]), (1, 1, [1]), (0, 1, [1000000000, 99]), (13, 0, []), (3, 1, [1]), (17, 1, [1])], [(1, 0, [3]), (10, 5, [9, 21]), (1, 0, [3]), (10, 5, [2, 42]), (0, 1, [0]), (13, 0, []), (0, 1, [1]), (2, 1, [1]), (0, 1, [0]), (2, 2, [1]), (17, 3, [])], [(1, 2, [1]), (0, 1, [10]), (16, 3, [9]), (1, 1, [1]), (15, 0, [9]), (0, 1, [0]), (2, 1, [1]), (0, 1, [0]), (2, 3, [1]), (17, 4, [])], [(1, 3, [1]), (1, 0, [3]), (10, 5, [0, 30]), (16, 3, [8]), (0, 1, [0]), (2, 4, [1]), (17, 5, [])], [(1, 4, [1]), (1, 0, [3]), (10, 5, [0, 30]), (16, 3, [7]), (1, 0, [3]), (1, 3, [1]), (1, 4, [1]), (21, 100, [0, 109]), (1, 0, [3]), (10, 5, [9, 21]), (1, 3, [1]), (12, 0, []), (16, 3, [6]), (1, 0, [3]), (10, 5, [9, 21]), (1, 3, [1]), (1, 0, [3]), (1, 3, [1]), (1, 4, [1]), (21, 100, [0, 109]), (13, 0, []), (0, 1, [1]), (2, 1, [1]), (17, 6, [])], [(3, 4, [1]), (17, 5, [1])], [(3, 3, [1]), (17, 4, [1])], [(3, 2, [1]), (17, 3, [1])], [(20, 0, [])]]
abbrev k_Walk_measureRest : Nat := 99
def p_Walk_restBy : List Nat := [0, 29, 32]
def b_Walk_restBy : List (List mmOp) := [[(1, 0, [3]), (10, 5, [6, 9]), (1, 1, [1]), (12, 0, []), (1, 0, [3]), (10, 5, [3, 45]), (4, 3, []), (1, 2, [1]), (4, 7, []), (0, 1, [1]), (4, 3, []), (15, 0, [1]), (1, 0, [3]), (10, 5, [9, 21]), (1, 2, [1]), (12, 0, []), (0, 1, [1000000000, 99]), (16, 2, [2]), (17, 1, [])], [(0, 1, [1000000000, 99]), (20, 1, [])], [(1, 0, [3]), (10, 5, [9, 21]), (1, 2, [1]), (12, 0, []), (1, 0, [3]), (10, 5, [7, 15]), (1, 2, [1]), (12, 0, []), (0, 1, [16]), (4, 2, []), (4, 0, []), (0, 1, [1]), (4, 0, []), (20, 1, [])]]
abbrev k_Walk_restBy : Nat := 100
def p_Walk_nextFrom : List Nat := [0, 2, 27, 33]
def b_Walk_nextFrom : List (List mmOp) := [[(0, 1, [0]), (2, 2, [1]), (17, 1, [])], [(1, 2, [1]), (1, 0, [3]), (10, 5, [0, 30]), (16, 3, [3]), (1, 0, [3]), (1, 1, [1]), (1, 2, [1]), (21, 100, [0, 109]), (1, 0, [3]), (10, 5, [9, 21]), (1, 1, [1]), (12, 0, []), (16, 1, [2]), (1, 2, [1]), (20, 1, [])], [(3, 2, [1]), (17, 1, [1])], [(1, 0, [3]), (10, 5, [2, 42]), (20, 1, [])]]
abbrev k_Walk_nextFrom : Nat := 101
def p_c_leave : List Nat := [0, 20, 22, 43, 74, 78, 79, 116, 122]
def b_c_leave : List (List mmOp) := [[(1, 2, [1]), (15, 2, [1]), (1, 2, [1]), (0, 1, [1]), (16, 4, [1]), (1, 0, [3]), (10, 0, [3, 23]), (1, 1, [1]), (21, 76, [0, 155]), (15, 1, [2]), (17, 1, [])], [(0, 1, [-1]), (20, 1, [])], [(1, 0, [3]), (10, 0, [9, 41]), (1, 0, [3]), (10, 0, [3, 23]), (1, 0, [3]), (10, 0, [4, 30]), (1, 1, [1]), (21, 94, [0, 198]), (0, 1, [-1]), (2, 3, [1]), (0, 1, [0]), (2, 4, [1]), (17, 3, [])], [(1, 4, [1]), (0, 1, [1]), (1, 0, [3]), (10, 0, [3, 23]), (10, 2, [0, 90]), (4, 6, []), (16, 3, [8]), (1, 3, [1]), (0, 1, [-1]), (16, 0, [4]), (1, 4, [1]), (21, 73, [1, 134]), (1, 3, [1]), (21, 73, [1, 134]), (16, 3, [5]), (17, 4, [])], [(0, 1, [1]), (17, 6, [1])], [(0, 1, [0]), (17, 6, [])], [(2, 5, [1]), (1, 5, [1]), (15, 0, [7]), (1, 0, [3]), (10, 0, [9, 41]), (1, 0, [3]), (10, 0, [9, 41]), (10, 5, [3, 205]), (1, 0, [3]), (10, 0, [3, 23]), (1, 4, [1]), (21, 103, [0, 222]), (4, 3, []), (21, 104, [0, 225]), (15, 0, [7]), (1, 4, [1]), (2, 3, [1]), (17, 7, [])], [(3, 4, [1]), (17, 3, [1])], [(1, 3, [1]), (1, 2, [1]), (21, 106, [1, 228]), (20, 1, [])]]
abbrev k_c_leave : Nat := 102
def p_Town_lotsOf : List Nat := [0, 4, 34, 40]
def b_Town_lotsOf : List (List mmOp) := [[(0, 1, [0]), (2, 2, [1]), (0, 1, [0]), (2, 3, [1]), (17, 1, [])], [(1, 3, [1]), (1, 0, [3]), (10, 2, [1, 46]), (16, 3, [3]), (1, 1, [1]), (1, 0, [3]), (10, 2, [9, 23]), (1, 3, [1]), (12, 4, []), (0, 1, [0]), (12, 0, []), (4, 7, []), (0, 1, [1]), (4, 3, []), (0, 1, [1]), (16, 1, [2]), (1, 2, [1]), (0, 1, [1]), (1, 3, [1]), (4, 6, []), (4, 4, []), (2, 2, [1]), (17, 2, [])], [(3, 3, [1]), (17, 1, [1])], [(1, 2, [1]), (20, 1, [])]]
abbrev k_Town_lotsOf : Nat := 103
def p_Walk_arrives : List Nat := [0, 20, 21]
def b_Walk_arrives : List (List mmOp) := [[(1, 0, [3]), (1, 1, [1]), (21, 105, [0, 93]), (1, 0, [3]), (10, 5, [2, 42]), (4, 7, []), (0, 1, [1]), (4, 3, []), (0, 1, [1]), (16, 1, [1]), (0, 1, [1]), (17, 2, [1])], [(0, 1, [0]), (17, 2, [])], [(20, 4, [])]]
abbrev k_Walk_arrives : Nat := 104
def p_Walk_reached : List Nat := [0, 9, 21, 54, 60, 68, 77]
def b_Walk_reached : List (List mmOp) := [[(0, 1, [1]), (1, 0, [3]), (10, 5, [1, 36]), (4, 6, []), (2, 2, [1]), (0, 1, [0]), (2, 3, [1]), (17, 1, [])], [(1, 3, [1]), (0, 1, [10]), (16, 3, [6]), (1, 2, [1]), (2, 4, [1]), (0, 1, [0]), (2, 5, [1]), (17, 2, [])], [(1, 5, [1]), (1, 0, [3]), (10, 5, [0, 30]), (16, 3, [4]), (1, 2, [1]), (1, 5, [1]), (4, 7, []), (0, 1, [1]), (4, 3, []), (0, 1, [1]), (16, 1, [3]), (1, 4, [1]), (1, 0, [3]), (10, 5, [6, 9]), (1, 5, [1]), (12, 0, []), (1, 1, [1]), (4, 3, []), (4, 4, []), (2, 4, [1]), (17, 3, [])], [(3, 5, [1]), (17, 2, [1])], [(1, 4, [1]), (1, 2, [1]), (16, 1, [5]), (1, 2, [1]), (20, 1, [])], [(1, 4, [1]), (2, 2, [1]), (3, 3, [1]), (17, 1, [1])], [(1, 2, [1]), (20, 1, [])]]
abbrev k_Walk_reached : Nat := 105
def p_c_countOrBits : List Nat := [0, 10, 14, 18]
def b_c_countOrBits : List (List mmOp) := [[(1, 0, [1]), (0, 1, [-1]), (16, 0, [1]), (1, 1, [1]), (0, 1, [1]), (16, 1, [2]), (17, 1, [])], [(1, 0, [1]), (17, 3, [1])], [(1, 0, [1]), (21, 73, [1, 134]), (17, 3, [])], [(20, 1, [])]]
abbrev k_c_countOrBits : Nat := 106
def p_c_go : List Nat := [0, 10]
def b_c_go : List (List mmOp) := [[(1, 0, [3]), (1, 1, [1]), (21, 97, [0, 207]), (15, 1, [1]), (0, 1, [-1]), (20, 1, [])], [(1, 0, [3]), (21, 108, [0, 231]), (1, 0, [3]), (1, 1, [1]), (21, 110, [0, 234]), (9, 2, []), (1, 0, [3]), (10, 0, [9, 41]), (10, 5, [4, 210]), (20, 1, [])]]
abbrev k_c_go : Nat := 107
def p_c_keepForUndo : List Nat := [0]
def b_c_keepForUndo : List (List mmOp) := [[(1, 0, [3]), (10, 0, [5, 34]), (1, 0, [3]), (10, 0, [6, 268]), (12, 5, []), (1, 0, [3]), (10, 0, [4, 30]), (21, 109, [0, 271]), (1, 0, [3]), (1, 0, [3]), (10, 0, [6, 268]), (0, 1, [1]), (4, 0, []), (0, 1, [20]), (6, 1, []), (11, 0, [6, 268]), (1, 0, [3]), (1, 0, [3]), (10, 0, [7, 84]), (0, 1, [1]), (4, 0, []), (0, 1, [20]), (31, 1, [0, 275]), (11, 0, [7, 84]), (20, 0, [])]]
abbrev k_c_keepForUndo : Nat := 108
def p_Roofs_copyFrom : List Nat := [0, 85, 115]
def b_Roofs_copyFrom : List (List mmOp) := [[(1, 0, [3]), (1, 1, [3]), (10, 4, [0, 29]), (11, 4, [0, 29]), (1, 0, [3]), (1, 1, [3]), (10, 4, [1, 33]), (11, 4, [1, 33]), (1, 0, [3]), (1, 1, [3]), (10, 4, [2, 36]), (11, 4, [2, 36]), (1, 1, [3]), (10, 4, [3, 9]), (0, 1, [0]), (1, 0, [3]), (10, 4, [3, 9]), (0, 1, [0]), (0, 1, [10]), (25, 0, [0, 56]), (1, 1, [3]), (10, 4, [4, 15]), (0, 1, [0]), (1, 0, [3]), (10, 4, [4, 15]), (0, 1, [0]), (0, 1, [6]), (25, 0, [0, 56]), (1, 1, [3]), (10, 4, [5, 18]), (0, 1, [0]), (1, 0, [3]), (10, 4, [5, 18]), (0, 1, [0]), (0, 1, [6]), (25, 0, [0, 56]), (1, 1, [3]), (10, 4, [6, 21]), (0, 1, [0]), (1, 0, [3]), (10, 4, [6, 21]), (0, 1, [0]), (0, 1, [5]), (25, 0, [0, 56]), (0, 1, [0]), (2, 2, [1]), (17, 1, [])], [(1, 2, [1]), (0, 1, [2]), (16, 4, [2]), (1, 1, [3]), (10, 4, [7, 26]), (1, 2, [1]), (12, 4, []), (0, 1, [0]), (1, 0, [3]), (10, 4, [7, 26]), (1, 2, [1]), (12, 4, []), (0, 1, [0]), (0, 1, [60]), (25, 0, [0, 56]), (3, 2, [1]), (17, 1, [1])], [(20, 0, [])]]
abbrev k_Roofs_copyFrom : Nat := 109
def p_c_goFoundWay : List Nat := [0, 4, 96, 102]
def b_c_goFoundWay : List (List mmOp) := [[(0, 1, [0]), (2, 2, [1]), (0, 1, [0]), (2, 3, [1]), (17, 1, [])], [(1, 3, [1]), (1, 0, [3]), (10, 0, [9, 41]), (10, 5, [5, 213]), (16, 3, [3]), (1, 0, [3]), (10, 0, [9, 41]), (10, 5, [8, 216]), (1, 3, [1]), (12, 0, []), (2, 4, [1]), (1, 0, [3]), (10, 0, [4, 30]), (10, 4, [6, 190]), (1, 0, [3]), (10, 0, [3, 23]), (10, 2, [9, 161]), (1, 4, [1]), (12, 4, []), (0, 1, [0]), (12, 0, []), (9, 1, []), (12, 0, []), (1, 0, [3]), (10, 0, [9, 41]), (10, 5, [7, 237]), (1, 4, [1]), (12, 0, []), (4, 0, []), (13, 0, []), (1, 0, [3]), (1, 1, [1]), (1, 4, [1]), (21, 111, [0, 240]), (15, 0, [2]), (1, 0, [3]), (10, 0, [4, 30]), (10, 4, [3, 165]), (1, 4, [1]), (9, 1, []), (12, 0, []), (0, 1, [1]), (4, 1, []), (13, 0, []), (1, 0, [3]), (10, 0, [4, 30]), (1, 4, [1]), (1, 1, [1]), (21, 112, [0, 244]), (3, 2, [1]), (17, 2, [])], [(3, 3, [1]), (17, 1, [1])], [(1, 0, [3]), (10, 0, [4, 30]), (1, 1, [1]), (21, 114, [0, 248]), (1, 2, [1]), (20, 1, [])]]
abbrev k_c_goFoundWay : Nat := 110
def p_c_breaksAt : List Nat := [0, 47, 48]
def b_c_breaksAt : List (List mmOp) := [[(1, 0, [3]), (10, 0, [4, 30]), (10, 4, [3, 165]), (1, 2, [1]), (12, 0, []), (15, 5, [1]), (1, 0, [3]), (10, 0, [3, 23]), (10, 2, [10, 181]), (1, 1, [1]), (12, 4, []), (0, 1, [0]), (12, 0, []), (1, 0, [3]), (10, 0, [3, 23]), (10, 2, [4, 111]), (1, 0, [3]), (10, 0, [4, 30]), (10, 4, [3, 165]), (1, 2, [1]), (12, 0, []), (4, 2, []), (16, 5, [1]), (0, 1, [1]), (17, 2, [1])], [(0, 1, [0]), (17, 2, [])], [(20, 4, [])]]
abbrev k_c_breaksAt : Nat := 111
def p_Roofs_lead : List Nat := [0, 13]
def b_Roofs_lead : List (List mmOp) := [[(1, 0, [3]), (10, 4, [2, 36]), (0, 1, [60]), (16, 2, [1]), (1, 0, [3]), (21, 113, [0, 62]), (17, 1, [])], [(1, 0, [3]), (10, 4, [7, 26]), (0, 1, [0]), (12, 4, []), (1, 0, [3]), (10, 4, [2, 36]), (1, 0, [3]), (10, 4, [0, 29]), (13, 0, []), (1, 0, [3]), (10, 4, [7, 26]), (0, 1, [1]), (12, 4, []), (1, 0, [3]), (10, 4, [2, 36]), (1, 1, [1]), (13, 0, []), (1, 0, [3]), (10, 4, [7, 26]), (0, 1, [2]), (12, 4, []), (1, 0, [3]), (10, 4, [2, 36]), (1, 2, [1]), (13, 0, []), (1, 0, [3]), (9, 0, []), (10, 4, [2, 36]), (0, 1, [1]), (4, 0, []), (11, 4, [2, 36]), (20, 0, [])]]
abbrev k_Roofs_lead : Nat := 112
def p_Roofs_forgetOldestLed : List Nat := [0, 2, 32]
def b_Roofs_forgetOldestLed : List (List mmOp) := [[(0, 1, [0]), (2, 1, [1]), (17, 1, [])], [(1, 1, [1]), (0, 1, [2]), (16, 4, [2]), (1, 0, [3]), (10, 4, [7, 26]), (1, 1, [1]), (12, 4, []), (0, 1, [1]), (1, 0, [3]), (10, 4, [7, 26]), (1, 1, [1]), (12, 4, []), (0, 1, [0]), (0, 1, [59]), (25, 0, [0, 56]), (3, 1, [1]), (17, 1, [1])], [(1, 0, [3]), (0, 1, [59]), (11, 4, [2, 36]), (20, 0, [])]]
abbrev k_Roofs_forgetOldestLed : Nat := 113
def p_Roofs_turnBack : List Nat := [0]
def b_Roofs_turnBack : List (List mmOp) := [[(1, 0, [3]), (10, 4, [5, 18]), (1, 1, [1]), (12, 0, []), (2, 2, [1]), (1, 0, [3]), (10, 4, [5, 18]), (1, 1, [1]), (1, 0, [3]), (10, 4, [4, 15]), (1, 1, [1]), (12, 0, []), (13, 0, []), (1, 0, [3]), (10, 4, [4, 15]), (1, 1, [1]), (1, 2, [1]), (13, 0, []), (20, 0, [])]]
abbrev k_Roofs_turnBack : Nat := 114
def p_c_night : List Nat := [0, 15, 23, 50, 56, 76]
def b_c_night : List (List mmOp) := [[(1, 0, [3]), (10, 0, [4, 30]), (10, 4, [0, 117]), (0, 1, [999]), (16, 2, [1]), (0, 1, [-1]), (20, 1, [])], [(1, 0, [3]), (21, 108, [0, 231]), (0, 1, [0]), (2, 1, [1]), (0, 1, [0]), (2, 2, [1]), (17, 2, [])], [(1, 2, [1]), (1, 0, [3]), (10, 0, [3, 23]), (10, 2, [3, 99]), (16, 3, [4]), (1, 0, [3]), (1, 2, [1]), (21, 97, [0, 207]), (15, 0, [3]), (1, 1, [1]), (1, 0, [3]), (1, 2, [1]), (21, 110, [0, 234]), (4, 0, []), (2, 1, [1]), (17, 3, [])], [(3, 2, [1]), (17, 2, [1])], [(1, 0, [3]), (0, 1, [100]), (21, 116, [0, 251]), (1, 0, [3]), (10, 0, [3, 23]), (10, 2, [5, 114]), (16, 3, [5]), (1, 0, [3]), (21, 117, [0, 254]), (17, 5, [])], [(1, 0, [3]), (10, 0, [4, 30]), (9, 0, []), (10, 4, [0, 117]), (0, 1, [1]), (4, 0, []), (11, 4, [0, 117]), (1, 1, [1]), (20, 1, [])]]
abbrev k_c_night : Nat := 115
def p_c_draw : List Nat := [0, 36, 37]
def b_c_draw : List (List mmOp) := [[(1, 0, [3]), (0, 1, [1103515245, 257]), (1, 0, [3]), (10, 0, [8, 48]), (4, 2, []), (0, 1, [12345]), (4, 0, []), (0, 1, [2147483647, 258]), (4, 3, []), (11, 0, [8, 48]), (1, 1, [1]), (15, 5, [1]), (1, 0, [3]), (10, 0, [8, 48]), (0, 1, [6]), (4, 7, []), (1, 1, [1]), (6, 1, []), (17, 2, [1])], [(0, 1, [0]), (17, 2, [])], [(20, 1, [])]]
abbrev k_c_draw : Nat := 116
def p_c_letRain : List Nat := [0, 7, 50, 56]
def b_c_letRain : List (List mmOp) := [[(1, 0, [3]), (21, 118, [0, 259]), (2, 1, [1]), (0, 1, [0]), (2, 2, [1]), (17, 1, [])], [(1, 2, [1]), (1, 0, [3]), (10, 0, [3, 23]), (10, 2, [1, 93]), (16, 3, [3]), (1, 1, [1]), (1, 2, [1]), (4, 7, []), (0, 1, [1]), (4, 3, []), (0, 1, [1]), (16, 1, [2]), (1, 0, [3]), (10, 0, [4, 30]), (10, 4, [6, 190]), (1, 0, [3]), (10, 0, [3, 23]), (10, 2, [9, 161]), (1, 2, [1]), (12, 4, []), (0, 1, [0]), (12, 0, []), (9, 1, []), (12, 0, []), (0, 1, [1]), (4, 1, []), (13, 0, []), (17, 2, [])], [(3, 2, [1]), (17, 1, [1])], [(20, 0, [])]]
abbrev k_c_letRain : Nat := 117
def p_c_leaks : List Nat := [0, 4, 34, 40]
def b_c_leaks : List (List mmOp) := [[(0, 1, [0]), (2, 1, [1]), (0, 1, [0]), (2, 2, [1]), (17, 1, [])], [(1, 2, [1]), (1, 0, [3]), (10, 0, [3, 23]), (10, 2, [1, 93]), (16, 3, [3]), (1, 0, [3]), (10, 0, [4, 30]), (10, 4, [3, 165]), (1, 2, [1]), (12, 0, []), (0, 1, [3]), (16, 3, [2]), (1, 1, [1]), (0, 1, [1]), (1, 2, [1]), (4, 6, []), (4, 4, []), (2, 1, [1]), (17, 2, [])], [(3, 2, [1]), (17, 1, [1])], [(1, 1, [1]), (20, 1, [])]]
abbrev k_c_leaks : Nat := 118
def p_c_patch : List Nat := [0, 27, 29, 71, 73]
def b_c_patch : List (List mmOp) := [[(1, 0, [3]), (10, 0, [3, 23]), (1, 1, [1]), (21, 42, [0, 149]), (15, 0, [1]), (1, 0, [3]), (10, 0, [3, 23]), (1, 2, [1]), (21, 42, [0, 149]), (15, 0, [1]), (1, 1, [1]), (1, 2, [1]), (16, 1, [2]), (17, 1, [])], [(0, 1, [0]), (20, 4, [])], [(1, 0, [3]), (10, 0, [3, 23]), (10, 2, [9, 161]), (1, 1, [1]), (12, 4, []), (0, 1, [4]), (12, 0, []), (0, 1, [1]), (16, 0, [3]), (1, 0, [3]), (10, 0, [4, 30]), (10, 4, [3, 165]), (1, 1, [1]), (12, 0, []), (0, 1, [1]), (16, 2, [3]), (1, 0, [3]), (10, 0, [4, 30]), (10, 4, [3, 165]), (1, 2, [1]), (12, 0, []), (0, 1, [30]), (16, 2, [4]), (17, 3, [])], [(0, 1, [0]), (20, 4, [])], [(1, 0, [3]), (21, 108, [0, 231]), (1, 0, [3]), (10, 0, [4, 30]), (10, 4, [3, 165]), (1, 1, [1]), (9, 1, []), (12, 0, []), (0, 1, [1]), (4, 1, []), (13, 0, []), (1, 0, [3]), (10, 0, [4, 30]), (10, 4, [3, 165]), (1, 2, [1]), (9, 1, []), (12, 0, []), (0, 1, [1]), (4, 0, []), (13, 0, []), (0, 1, [1]), (20, 4, [])]]
abbrev k_c_patch : Nat := 119
def p_c_snow : List Nat := [0, 10, 12]
def b_c_snow : List (List mmOp) := [[(1, 1, [1]), (15, 2, [1]), (1, 1, [1]), (0, 1, [9]), (16, 5, [2]), (17, 1, [])], [(0, 1, [-1]), (20, 1, [])], [(1, 0, [3]), (21, 108, [0, 231]), (1, 0, [3]), (10, 0, [4, 30]), (10, 4, [1, 120]), (2, 2, [1]), (1, 0, [3]), (10, 0, [4, 30]), (1, 1, [1]), (11, 4, [1, 120]), (1, 2, [1]), (20, 1, [])]]
abbrev k_c_snow : Nat := 120
def p_c_fire : List Nat := [0, 14]
def b_c_fire : List (List mmOp) := [[(1, 0, [3]), (1, 1, [1]), (1, 2, [1]), (21, 122, [0, 262]), (2, 3, [1]), (1, 3, [1]), (0, 1, [-1]), (16, 1, [1]), (0, 1, [-1]), (20, 1, [])], [(1, 0, [3]), (21, 108, [0, 231]), (1, 0, [3]), (10, 0, [4, 30]), (1, 3, [1]), (21, 71, [0, 127]), (2, 4, [1]), (1, 0, [3]), (10, 0, [4, 30]), (1, 3, [1]), (21, 124, [0, 265]), (1, 4, [1]), (20, 1, [])]]
abbrev k_c_fire : Nat := 121
def p_c_burns : List Nat := [0, 33, 35, 58, 89]
def b_c_burns : List (List mmOp) := [[(1, 0, [3]), (10, 0, [3, 23]), (1, 1, [1]), (21, 42, [0, 149]), (15, 0, [1]), (1, 2, [1]), (15, 2, [1]), (1, 2, [1]), (0, 1, [20]), (16, 4, [1]), (1, 0, [3]), (10, 0, [4, 30]), (10, 4, [3, 165]), (1, 1, [1]), (12, 0, []), (15, 1, [2]), (17, 1, [])], [(0, 1, [-1]), (20, 1, [])], [(1, 0, [3]), (10, 0, [4, 30]), (1, 0, [3]), (10, 0, [3, 23]), (10, 2, [1, 93]), (21, 72, [0, 131]), (2, 3, [1]), (0, 1, [1]), (1, 1, [1]), (4, 6, []), (2, 4, [1]), (0, 1, [0]), (2, 5, [1]), (17, 3, [])], [(1, 5, [1]), (1, 2, [1]), (16, 3, [4]), (1, 4, [1]), (1, 0, [3]), (10, 0, [3, 23]), (1, 4, [1]), (0, 1, [1]), (21, 123, [0, 283]), (1, 3, [1]), (0, 1, [-1]), (4, 5, []), (4, 3, []), (4, 4, []), (2, 4, [1]), (3, 5, [1]), (17, 3, [1])], [(1, 4, [1]), (20, 1, [])]]
abbrev k_c_burns : Nat := 122
def p_Town_besides : List Nat := [0, 5, 17, 67, 73, 79]
def b_Town_besides : List (List mmOp) := [[(0, 1, [0]), (2, 3, [1]), (0, 1, [0]), (2, 4, [1]), (17, 1, [])], [(1, 4, [1]), (1, 0, [3]), (10, 2, [1, 46]), (16, 3, [5]), (0, 1, [0]), (2, 5, [1]), (17, 2, [])], [(1, 5, [1]), (1, 0, [3]), (10, 2, [1, 46]), (16, 3, [4]), (1, 0, [3]), (10, 2, [11, 29]), (1, 4, [1]), (12, 4, []), (1, 5, [1]), (12, 0, []), (2, 6, [1]), (1, 1, [1]), (1, 4, [1]), (4, 7, []), (0, 1, [1]), (4, 3, []), (0, 1, [1]), (16, 1, [3]), (1, 6, [1]), (0, 1, [-1]), (16, 0, [3]), (1, 6, [1]), (1, 2, [1]), (16, 4, [3]), (1, 3, [1]), (0, 1, [1]), (1, 5, [1]), (4, 6, []), (4, 4, []), (2, 3, [1]), (17, 3, [])], [(3, 5, [1]), (17, 2, [1])], [(3, 4, [1]), (17, 1, [1])], [(1, 3, [1]), (20, 1, [])]]
abbrev k_Town_besides : Nat := 123
def p_Roofs_takeAllOf : List Nat := [0, 2, 24, 30]
def b_Roofs_takeAllOf : List (List mmOp) := [[(0, 1, [0]), (2, 2, [1]), (17, 1, [])], [(1, 2, [1]), (0, 1, [10]), (16, 3, [3]), (1, 1, [1]), (1, 2, [1]), (4, 7, []), (0, 1, [1]), (4, 3, []), (0, 1, [1]), (16, 1, [2]), (1, 0, [3]), (10, 4, [3, 9]), (1, 2, [1]), (0, 1, [0]), (13, 0, []), (17, 2, [])], [(3, 2, [1]), (17, 1, [1])], [(20, 0, [])]]
abbrev k_Roofs_takeAllOf : Nat := 124
def p_c_undo : List Nat := [0, 10]
def b_c_undo : List (List mmOp) := [[(1, 0, [3]), (10, 0, [7, 84]), (0, 1, [1]), (16, 3, [1]), (0, 1, [0]), (20, 4, [])], [(1, 0, [3]), (9, 0, []), (10, 0, [7, 84]), (0, 1, [1]), (4, 1, []), (11, 0, [7, 84]), (1, 0, [3]), (1, 0, [3]), (10, 0, [6, 268]), (0, 1, [20]), (4, 0, []), (0, 1, [1]), (4, 1, []), (0, 1, [20]), (6, 1, []), (11, 0, [6, 268]), (1, 0, [3]), (10, 0, [4, 30]), (1, 0, [3]), (10, 0, [5, 34]), (1, 0, [3]), (10, 0, [6, 268]), (12, 5, []), (21, 109, [0, 271]), (0, 1, [1]), (20, 4, [])]]
abbrev k_c_undo : Nat := 125
def p_c_seed : List Nat := [0, 6]
def b_c_seed : List (List mmOp) := [[(1, 1, [1]), (15, 3, [1]), (0, 1, [0]), (20, 4, [])], [(1, 0, [3]), (1, 1, [1]), (11, 0, [8, 48]), (0, 1, [1]), (20, 4, [])]]
abbrev k_c_seed : Nat := 126
def p_c_led : List Nat := [0, 24, 26]
def b_c_led : List (List mmOp) := [[(1, 1, [1]), (15, 2, [1]), (1, 1, [1]), (1, 0, [3]), (10, 0, [4, 30]), (10, 4, [2, 139]), (16, 3, [1]), (1, 2, [1]), (15, 2, [1]), (1, 2, [1]), (0, 1, [2]), (16, 5, [2]), (17, 1, [])], [(0, 1, [-1]), (20, 1, [])], [(1, 0, [3]), (10, 0, [4, 30]), (10, 4, [7, 280]), (1, 2, [1]), (12, 4, []), (1, 1, [1]), (12, 0, []), (20, 1, [])]]
abbrev k_c_led : Nat := 127
def p_c_stopped : List Nat := [0, 20, 22, 79, 124, 154, 160, 171, 176, 178]
def b_c_stopped : List (List mmOp) := [[(1, 2, [1]), (15, 2, [1]), (1, 2, [1]), (0, 1, [1]), (16, 4, [1]), (1, 0, [3]), (10, 0, [3, 23]), (1, 1, [1]), (21, 76, [0, 155]), (15, 1, [2]), (17, 1, [])], [(0, 1, [-1]), (20, 1, [])], [(1, 0, [3]), (10, 0, [9, 41]), (1, 0, [3]), (10, 0, [3, 23]), (1, 0, [3]), (10, 0, [4, 30]), (1, 1, [1]), (21, 94, [0, 198]), (1, 0, [3]), (10, 0, [3, 23]), (21, 129, [0, 286]), (0, 1, [1]), (1, 0, [3]), (10, 0, [4, 30]), (10, 4, [4, 174]), (1, 1, [1]), (12, 0, []), (4, 6, []), (4, 4, []), (0, 1, [1]), (1, 0, [3]), (10, 0, [4, 30]), (10, 4, [5, 184]), (1, 1, [1]), (12, 0, []), (4, 6, []), (4, 4, []), (2, 3, [1]), (0, 1, [-1]), (2, 4, [1]), (0, 1, [0]), (2, 5, [1]), (0, 1, [0]), (2, 6, [1]), (17, 3, [])], [(1, 6, [1]), (0, 1, [1]), (1, 0, [3]), (10, 0, [3, 23]), (10, 2, [1, 93]), (4, 6, []), (16, 3, [6]), (1, 6, [1]), (1, 3, [1]), (4, 3, []), (15, 1, [5]), (1, 0, [3]), (10, 0, [4, 30]), (1, 6, [1]), (21, 71, [0, 127]), (2, 7, [1]), (1, 4, [1]), (0, 1, [-1]), (16, 0, [4]), (1, 7, [1]), (1, 5, [1]), (16, 3, [5]), (17, 4, [])], [(1, 0, [3]), (10, 0, [9, 41]), (1, 0, [3]), (10, 0, [9, 41]), (10, 5, [3, 205]), (1, 6, [1]), (0, 1, [-1]), (4, 5, []), (4, 3, []), (21, 104, [0, 225]), (15, 1, [5]), (1, 6, [1]), (2, 4, [1]), (1, 7, [1]), (2, 5, [1]), (17, 5, [])], [(3, 6, [1]), (17, 3, [1])], [(1, 4, [1]), (0, 1, [-1]), (16, 0, [7]), (1, 2, [1]), (0, 1, [1]), (16, 1, [8]), (17, 7, [])], [(1, 4, [1]), (17, 9, [1])], [(1, 5, [1]), (17, 9, [])], [(20, 1, [])]]
abbrev k_c_stopped : Nat := 128
def p_Town_storks : List Nat := [0, 4, 31]
def b_Town_storks : List (List mmOp) := [[(0, 1, [0]), (2, 1, [1]), (0, 1, [0]), (2, 2, [1]), (17, 1, [])], [(1, 2, [1]), (1, 0, [3]), (10, 2, [1, 46]), (16, 3, [2]), (1, 1, [1]), (1, 0, [3]), (10, 2, [9, 23]), (1, 2, [1]), (12, 4, []), (0, 1, [4]), (12, 0, []), (1, 2, [1]), (4, 6, []), (4, 4, []), (2, 1, [1]), (3, 2, [1]), (17, 1, [1])], [(1, 1, [1]), (20, 1, [])]]
abbrev k_Town_storks : Nat := 129
def p_c_opened : List Nat := [0, 20, 22, 61, 94, 98, 99, 139, 145]
def b_c_opened : List (List mmOp) := [[(1, 2, [1]), (15, 2, [1]), (1, 2, [1]), (0, 1, [1]), (16, 4, [1]), (1, 0, [3]), (10, 0, [3, 23]), (1, 1, [1]), (21, 76, [0, 155]), (15, 1, [2]), (17, 1, [])], [(0, 1, [-1]), (20, 1, [])], [(1, 0, [3]), (10, 0, [9, 41]), (1, 0, [3]), (10, 0, [3, 23]), (1, 0, [3]), (10, 0, [4, 30]), (1, 1, [1]), (21, 94, [0, 198]), (1, 0, [3]), (10, 0, [9, 41]), (1, 0, [3]), (10, 0, [3, 23]), (1, 0, [3]), (10, 0, [4, 30]), (1, 1, [1]), (21, 131, [0, 289]), (2, 3, [1]), (0, 1, [-1]), (2, 4, [1]), (0, 1, [0]), (2, 5, [1]), (17, 3, [])], [(1, 5, [1]), (0, 1, [1]), (1, 0, [3]), (10, 0, [3, 23]), (10, 2, [1, 93]), (4, 6, []), (16, 3, [8]), (1, 4, [1]), (0, 1, [-1]), (16, 0, [4]), (1, 5, [1]), (21, 73, [1, 134]), (1, 4, [1]), (21, 73, [1, 134]), (16, 3, [5]), (17, 4, [])], [(0, 1, [1]), (17, 6, [1])], [(0, 1, [0]), (17, 6, [])], [(2, 6, [1]), (1, 5, [1]), (1, 3, [1]), (0, 1, [-1]), (4, 5, []), (4, 3, []), (15, 1, [7]), (1, 6, [1]), (15, 0, [7]), (1, 0, [3]), (10, 0, [9, 41]), (1, 0, [3]), (10, 0, [9, 41]), (10, 5, [3, 205]), (1, 5, [1]), (4, 4, []), (21, 104, [0, 225]), (15, 0, [7]), (1, 5, [1]), (2, 4, [1]), (17, 7, [])], [(3, 5, [1]), (17, 3, [1])], [(1, 4, [1]), (1, 2, [1]), (21, 106, [1, 228]), (20, 1, [])]]
abbrev k_c_opened : Nat := 130
def p_Walk_openIfLaid : List Nat := [0, 6, 48, 54]
def b_Walk_openIfLaid : List (List mmOp) := [[(0, 1, [0]), (2, 4, [1]), (0, 1, [0]), (2, 5, [1]), (17, 1, [])], [(1, 5, [1]), (1, 0, [3]), (10, 5, [0, 30]), (16, 3, [3]), (1, 2, [3]), (10, 4, [3, 48]), (1, 5, [1]), (12, 0, []), (15, 1, [2]), (1, 0, [3]), (1, 1, [3]), (1, 2, [3]), (1, 3, [1]), (1, 5, [1]), (0, 1, [1]), (21, 85, [0, 51]), (0, 1, [-1]), (16, 0, [2]), (1, 4, [1]), (0, 1, [1]), (1, 5, [1]), (4, 6, []), (4, 4, []), (2, 4, [1]), (17, 2, [])], [(3, 5, [1]), (17, 1, [1])], [(1, 4, [1]), (20, 1, [])]]
abbrev k_Walk_openIfLaid : Nat := 131
def p_c_broke : List Nat := [0, 21, 23, 38, 51, 75, 76]
def b_c_broke : List (List mmOp) := [[(1, 0, [3]), (10, 0, [3, 23]), (1, 1, [1]), (21, 42, [0, 149]), (15, 0, [1]), (1, 2, [1]), (15, 2, [1]), (1, 2, [1]), (0, 1, [9]), (16, 5, [2]), (17, 1, [])], [(0, 1, [-1]), (20, 1, [])], [(1, 3, [1]), (0, 1, [-1]), (16, 1, [3]), (1, 0, [3]), (1, 1, [1]), (1, 2, [1]), (21, 133, [0, 293]), (21, 73, [1, 134]), (20, 1, [])], [(1, 3, [1]), (0, 1, [20]), (16, 1, [4]), (1, 0, [3]), (1, 1, [1]), (1, 2, [1]), (21, 133, [0, 293]), (20, 1, [])], [(1, 0, [3]), (10, 0, [3, 23]), (1, 3, [1]), (21, 76, [0, 155]), (15, 0, [5]), (1, 0, [3]), (1, 1, [1]), (1, 2, [1]), (21, 133, [0, 293]), (1, 3, [1]), (21, 135, [1, 296]), (17, 6, [1])], [(0, 1, [-1]), (17, 6, [])], [(20, 1, [])]]
abbrev k_c_broke : Nat := 132
def p_c_breakers : List Nat := [0, 5, 47, 48, 101, 102, 104, 110]
def b_c_breakers : List (List mmOp) := [[(0, 1, [0]), (2, 3, [1]), (0, 1, [0]), (2, 4, [1]), (17, 1, [])], [(1, 4, [1]), (1, 0, [3]), (10, 0, [3, 23]), (10, 2, [3, 99]), (16, 3, [7]), (1, 0, [3]), (10, 0, [3, 23]), (10, 2, [10, 181]), (1, 4, [1]), (12, 4, []), (0, 1, [3]), (12, 0, []), (1, 2, [1]), (16, 1, [2]), (1, 0, [3]), (1, 4, [1]), (1, 1, [1]), (21, 111, [0, 240]), (15, 0, [2]), (0, 1, [1]), (17, 3, [1])], [(0, 1, [0]), (17, 3, [])], [(2, 5, [1]), (1, 5, [1]), (15, 0, [6]), (1, 0, [3]), (10, 0, [9, 41]), (1, 0, [3]), (10, 0, [3, 23]), (1, 0, [3]), (10, 0, [4, 30]), (1, 4, [1]), (21, 94, [0, 198]), (1, 3, [1]), (1, 0, [3]), (10, 0, [9, 41]), (21, 98, [0, 219]), (15, 0, [4]), (1, 0, [3]), (10, 0, [9, 41]), (1, 1, [1]), (21, 134, [0, 299]), (15, 0, [4]), (0, 1, [1]), (1, 4, [1]), (4, 6, []), (17, 5, [1])], [(0, 1, [0]), (17, 5, [])], [(4, 4, []), (2, 3, [1]), (17, 6, [])], [(3, 4, [1]), (17, 1, [1])], [(1, 3, [1]), (20, 1, [])]]
abbrev k_c_breakers : Nat := 133
def p_Walk_comesTo : List Nat := [0, 2, 22, 28]
def b_Walk_comesTo : List (List mmOp) := [[(0, 1, [0]), (2, 2, [1]), (17, 1, [])], [(1, 2, [1]), (1, 0, [3]), (10, 5, [5, 103]), (16, 3, [3]), (1, 0, [3]), (10, 5, [8, 18]), (1, 2, [1]), (12, 0, []), (1, 1, [1]), (16, 1, [2]), (0, 1, [1]), (20, 4, [])], [(3, 2, [1]), (17, 1, [1])], [(0, 1, [0]), (20, 4, [])]]
abbrev k_Walk_comesTo : Nat := 134
def p_c_odds : List Nat := [0, 26, 27]
def b_c_odds : List (List mmOp) := [[(1, 0, [1]), (21, 73, [1, 134]), (2, 2, [1]), (1, 2, [1]), (15, 5, [1]), (1, 0, [1]), (1, 1, [1]), (4, 7, []), (0, 1, [1]), (4, 3, []), (0, 1, [1]), (16, 1, [1]), (0, 1, [1000]), (1, 2, [1]), (6, 0, []), (17, 2, [1])], [(0, 1, [0]), (17, 2, [])], [(20, 1, [])]]
abbrev k_c_odds : Nat := 135
def p_c_worth : List Nat := [0, 16, 21, 70, 73, 104, 107, 123]
def b_c_worth : List (List mmOp) := [[(1, 0, [3]), (10, 0, [3, 23]), (1, 1, [1]), (1, 2, [1]), (21, 45, [0, 177]), (0, 1, [-1]), (16, 1, [1]), (0, 1, [-1000000000, 193]), (20, 1, [])], [(0, 1, [0]), (2, 3, [1]), (0, 1, [0]), (2, 4, [1]), (17, 2, [])], [(1, 4, [1]), (1, 0, [3]), (10, 0, [3, 23]), (10, 2, [3, 99]), (16, 3, [7]), (1, 0, [3]), (10, 0, [9, 41]), (1, 0, [3]), (10, 0, [3, 23]), (1, 0, [3]), (10, 0, [4, 30]), (1, 4, [1]), (21, 94, [0, 198]), (1, 0, [3]), (10, 0, [9, 41]), (21, 98, [0, 219]), (15, 0, [3]), (1, 0, [3]), (10, 0, [9, 41]), (10, 5, [4, 210]), (17, 4, [1])], [(0, 1, [1000]), (17, 4, [])], [(2, 5, [1]), (1, 0, [3]), (10, 0, [9, 41]), (1, 1, [1]), (1, 2, [1]), (21, 137, [0, 302]), (1, 0, [3]), (10, 0, [9, 41]), (21, 98, [0, 219]), (15, 0, [5]), (1, 0, [3]), (10, 0, [9, 41]), (10, 5, [4, 210]), (17, 6, [1])], [(0, 1, [1000]), (17, 6, [])], [(2, 6, [1]), (1, 3, [1]), (1, 6, [1]), (1, 5, [1]), (4, 1, []), (4, 0, []), (2, 3, [1]), (3, 4, [1]), (17, 2, [1])], [(1, 3, [1]), (20, 1, [])]]
abbrev k_c_worth : Nat := 136
def p_Walk_cut : List Nat := [0]
def b_Walk_cut : List (List mmOp) := [[(1, 0, [3]), (10, 5, [6, 9]), (1, 1, [1]), (9, 1, []), (12, 0, []), (0, 1, [1]), (1, 2, [1]), (4, 6, []), (0, 1, [-1]), (4, 5, []), (4, 3, []), (13, 0, []), (1, 0, [3]), (10, 5, [6, 9]), (1, 2, [1]), (9, 1, []), (12, 0, []), (0, 1, [1]), (1, 1, [1]), (4, 6, []), (0, 1, [-1]), (4, 5, []), (4, 3, []), (13, 0, []), (20, 0, [])]]
abbrev k_Walk_cut : Nat := 137
def p_c_reach : List Nat := [0, 13]
def b_c_reach : List (List mmOp) := [[(1, 0, [3]), (10, 0, [3, 23]), (1, 1, [1]), (21, 76, [0, 155]), (15, 1, [1]), (0, 1, [-1]), (20, 1, [])], [(1, 0, [3]), (10, 0, [9, 41]), (1, 0, [3]), (10, 0, [3, 23]), (1, 0, [3]), (10, 0, [4, 30]), (1, 1, [1]), (21, 94, [0, 198]), (1, 0, [3]), (10, 0, [9, 41]), (1, 0, [3]), (10, 0, [9, 41]), (10, 5, [3, 205]), (21, 105, [0, 305]), (20, 1, [])]]
abbrev k_c_reach : Nat := 138
def p_c_image : List Nat := [0, 43, 73, 75, 118, 120, 134, 159, 165]
def b_c_image : List (List mmOp) := [[(1, 0, [3]), (0, 1, [0]), (11, 0, [11, 308]), (1, 0, [3]), (1, 0, [3]), (10, 0, [4, 30]), (10, 4, [0, 117]), (0, 1, [8]), (4, 7, []), (21, 140, [0, 311]), (1, 0, [3]), (1, 0, [3]), (10, 0, [4, 30]), (10, 4, [0, 117]), (21, 140, [0, 311]), (1, 0, [3]), (1, 0, [3]), (10, 0, [4, 30]), (10, 4, [1, 120]), (21, 140, [0, 311]), (0, 1, [0]), (2, 1, [1]), (17, 1, [])], [(1, 1, [1]), (1, 0, [3]), (10, 0, [3, 23]), (10, 2, [1, 93]), (16, 3, [2]), (1, 0, [3]), (1, 0, [3]), (10, 0, [4, 30]), (10, 4, [3, 165]), (1, 1, [1]), (12, 0, []), (21, 140, [0, 311]), (3, 1, [1]), (17, 1, [1])], [(0, 1, [0]), (2, 1, [1]), (17, 3, [])], [(1, 1, [1]), (1, 0, [3]), (10, 0, [3, 23]), (10, 2, [3, 99]), (16, 3, [4]), (1, 0, [3]), (1, 0, [3]), (10, 0, [4, 30]), (10, 4, [4, 174]), (1, 1, [1]), (12, 0, []), (21, 140, [0, 311]), (1, 0, [3]), (1, 0, [3]), (10, 0, [4, 30]), (10, 4, [5, 184]), (1, 1, [1]), (12, 0, []), (21, 140, [0, 311]), (3, 1, [1]), (17, 3, [1])], [(0, 1, [0]), (2, 1, [1]), (17, 5, [])], [(1, 1, [1]), (1, 0, [3]), (10, 0, [3, 23]), (10, 2, [0, 90]), (16, 3, [8]), (0, 1, [24]), (2, 2, [1]), (17, 6, [])], [(1, 2, [1]), (15, 2, [7]), (1, 0, [3]), (1, 0, [3]), (10, 0, [4, 30]), (10, 4, [6, 190]), (1, 1, [1]), (12, 0, []), (1, 2, [1]), (4, 7, []), (21, 140, [0, 311]), (3, 2, [-8]), (17, 6, [1])], [(3, 1, [1]), (17, 5, [1])], [(1, 0, [3]), (1, 0, [3]), (10, 0, [10, 45]), (1, 0, [3]), (10, 0, [11, 308]), (21, 141, [1, 314]), (21, 140, [0, 311]), (1, 0, [3]), (10, 0, [11, 308]), (20, 1, [])]]
abbrev k_c_image : Nat := 139
def p_c_shoot : List Nat := [0, 33]
def b_c_shoot : List (List mmOp) := [[(1, 0, [3]), (10, 0, [11, 308]), (0, 1, [46]), (16, 3, [1]), (1, 0, [3]), (10, 0, [10, 45]), (1, 0, [3]), (10, 0, [11, 308]), (1, 1, [1]), (0, 1, [255]), (4, 3, []), (13, 0, []), (1, 0, [3]), (9, 0, []), (10, 0, [11, 308]), (0, 1, [1]), (4, 0, []), (11, 0, [11, 308]), (17, 1, [])], [(20, 0, [])]]
abbrev k_c_shoot : Nat := 140
def p_c_checkByte : List Nat := [0, 6, 35]
def b_c_checkByte : List (List mmOp) := [[(0, 1, [131]), (2, 2, [1]), (0, 1, [0]), (2, 3, [1]), (17, 1, [])], [(1, 3, [1]), (1, 1, [1]), (16, 3, [2]), (1, 3, [1]), (1, 0, [3]), (14, 0, []), (16, 3, [2]), (0, 1, [3]), (1, 2, [1]), (4, 2, []), (1, 0, [3]), (1, 3, [1]), (12, 0, []), (4, 0, []), (0, 1, [253]), (6, 1, []), (2, 2, [1]), (3, 3, [1]), (17, 1, [1])], [(1, 2, [1]), (20, 1, [])]]
abbrev k_c_checkByte : Nat := 141
def p_c_octet : List Nat := [0, 21, 22]
def b_c_octet : List (List mmOp) := [[(1, 1, [1]), (15, 2, [1]), (1, 1, [1]), (1, 0, [3]), (10, 0, [11, 308]), (16, 3, [1]), (1, 0, [3]), (10, 0, [10, 45]), (1, 1, [1]), (12, 0, []), (17, 2, [1])], [(0, 1, [-1]), (17, 2, [])], [(20, 1, [])]]
abbrev k_c_octet : Nat := 142
def p_c_on : List Nat := [0, 20]
def b_c_on : List (List mmOp) := [[(1, 0, [3]), (10, 0, [1, 52]), (2, 1, [1]), (1, 0, [3]), (0, 1, [0]), (11, 0, [1, 52]), (1, 0, [3]), (1, 1, [1]), (21, 144, [0, 318]), (15, 1, [1]), (0, 1, [0]), (20, 4, [])], [(1, 0, [3]), (10, 0, [4, 30]), (1, 0, [3]), (10, 0, [0, 9]), (1, 0, [3]), (10, 0, [3, 23]), (21, 146, [0, 321]), (1, 0, [3]), (0, 1, [0]), (11, 0, [7, 84]), (0, 1, [1]), (20, 4, [])]]
abbrev k_c_on : Nat := 143
def p_c_isImage : List Nat := [0, 58, 60, 94, 96, 98, 124, 130, 132, 187, 193]
def b_c_isImage : List (List mmOp) := [[(0, 1, [3]), (1, 0, [3]), (10, 0, [3, 23]), (10, 2, [1, 93]), (4, 0, []), (0, 1, [2]), (1, 0, [3]), (10, 0, [3, 23]), (10, 2, [3, 99]), (4, 2, []), (4, 0, []), (0, 1, [4]), (1, 0, [3]), (10, 0, [3, 23]), (10, 2, [0, 90]), (4, 2, []), (4, 0, []), (0, 1, [1]), (4, 0, []), (2, 2, [1]), (1, 1, [1]), (1, 2, [1]), (16, 1, [1]), (1, 0, [3]), (10, 0, [0, 9]), (1, 2, [1]), (0, 1, [1]), (4, 1, []), (12, 0, []), (1, 0, [3]), (10, 0, [0, 9]), (1, 2, [1]), (0, 1, [1]), (4, 1, []), (21, 141, [1, 314]), (16, 0, [2]), (17, 1, [])], [(0, 1, [0]), (20, 4, [])], [(1, 0, [3]), (10, 0, [0, 9]), (0, 1, [0]), (12, 0, []), (0, 1, [256]), (4, 2, []), (1, 0, [3]), (10, 0, [0, 9]), (0, 1, [1]), (12, 0, []), (4, 0, []), (0, 1, [999]), (16, 4, [3]), (1, 0, [3]), (10, 0, [0, 9]), (0, 1, [2]), (12, 0, []), (0, 1, [9]), (16, 5, [4]), (17, 3, [])], [(0, 1, [0]), (20, 4, [])], [(0, 1, [0]), (2, 3, [1]), (17, 5, [])], [(1, 3, [1]), (1, 0, [3]), (10, 0, [3, 23]), (10, 2, [1, 93]), (16, 3, [7]), (1, 0, [3]), (10, 0, [0, 9]), (0, 1, [3]), (1, 3, [1]), (4, 0, []), (12, 0, []), (0, 1, [30]), (16, 5, [6]), (0, 1, [0]), (20, 4, [])], [(3, 3, [1]), (17, 5, [1])], [(0, 1, [0]), (2, 3, [1]), (17, 8, [])], [(1, 3, [1]), (1, 0, [3]), (10, 0, [3, 23]), (10, 2, [3, 99]), (16, 3, [10]), (0, 1, [3]), (1, 0, [3]), (10, 0, [3, 23]), (10, 2, [1, 93]), (4, 0, []), (0, 1, [2]), (1, 3, [1]), (4, 2, []), (4, 0, []), (2, 4, [1]), (1, 0, [3]), (10, 0, [3, 23]), (1, 3, [1]), (1, 0, [3]), (10, 0, [0, 9]), (1, 4, [1]), (12, 0, []), (1, 0, [3]), (10, 0, [0, 9]), (1, 4, [1]), (0, 1, [1]), (4, 0, []), (12, 0, []), (21, 145, [0, 325]), (15, 1, [9]), (0, 1, [0]), (20, 4, [])], [(3, 3, [1]), (17, 8, [1])], [(0, 1, [1]), (20, 4, [])]]
abbrev k_c_isImage : Nat := 144
def p_Town_goesBetween : List Nat := [0, 32, 44, 48, 49]
def b_Town_goesBetween : List (List mmOp) := [[(1, 0, [3]), (10, 2, [10, 26]), (1, 1, [1]), (12, 4, []), (0, 1, [4]), (12, 0, []), (2, 4, [1]), (1, 0, [3]), (10, 2, [10, 26]), (1, 1, [1]), (12, 4, []), (0, 1, [5]), (12, 0, []), (2, 5, [1]), (1, 2, [1]), (1, 4, [1]), (16, 1, [1]), (1, 3, [1]), (1, 5, [1]), (16, 0, [2]), (17, 1, [])], [(1, 2, [1]), (1, 5, [1]), (16, 1, [3]), (1, 3, [1]), (1, 4, [1]), (16, 1, [3]), (17, 2, [])], [(0, 1, [1]), (17, 4, [1])], [(0, 1, [0]), (17, 4, [])], [(20, 4, [])]]
abbrev k_Town_goesBetween : Nat := 145
def p_Roofs_load : List Nat := [0, 32, 60, 63, 103, 106, 161]
def b_Roofs_load : List (List mmOp) := [[(1, 0, [3]), (1, 1, [3]), (0, 1, [0]), (12, 0, []), (0, 1, [256]), (4, 2, []), (1, 1, [3]), (0, 1, [1]), (12, 0, []), (4, 0, []), (11, 4, [0, 29]), (1, 0, [3]), (1, 1, [3]), (0, 1, [2]), (12, 0, []), (11, 4, [1, 33]), (1, 0, [3]), (0, 1, [0]), (11, 4, [2, 36]), (0, 1, [3]), (2, 3, [1]), (0, 1, [0]), (2, 4, [1]), (17, 1, [])], [(1, 4, [1]), (1, 2, [3]), (10, 2, [1, 39]), (16, 3, [2]), (1, 0, [3]), (10, 4, [3, 9]), (1, 4, [1]), (1, 1, [3]), (1, 3, [1]), (12, 0, []), (13, 0, []), (3, 3, [1]), (3, 4, [1]), (17, 1, [1])], [(0, 1, [0]), (2, 4, [1]), (17, 3, [])], [(1, 4, [1]), (1, 2, [3]), (10, 2, [3, 47]), (16, 3, [4]), (1, 0, [3]), (10, 4, [4, 15]), (1, 4, [1]), (1, 1, [3]), (1, 3, [1]), (12, 0, []), (13, 0, []), (1, 0, [3]), (10, 4, [5, 18]), (1, 4, [1]), (1, 1, [3]), (1, 3, [1]), (0, 1, [1]), (4, 0, []), (12, 0, []), (13, 0, []), (3, 3, [2]), (3, 4, [1]), (17, 3, [1])], [(0, 1, [0]), (2, 4, [1]), (17, 5, [])], [(1, 4, [1]), (1, 2, [3]), (10, 2, [0, 53]), (16, 3, [6]), (1, 0, [3]), (10, 4, [6, 21]), (1, 4, [1]), (1, 1, [3]), (1, 3, [1]), (12, 0, []), (0, 1, [24]), (4, 6, []), (1, 1, [3]), (1, 3, [1]), (0, 1, [1]), (4, 0, []), (12, 0, []), (0, 1, [16]), (4, 6, []), (4, 4, []), (1, 1, [3]), (1, 3, [1]), (0, 1, [2]), (4, 0, []), (12, 0, []), (0, 1, [8]), (4, 6, []), (4, 4, []), (1, 1, [3]), (1, 3, [1]), (0, 1, [3]), (4, 0, []), (12, 0, []), (4, 4, []), (13, 0, []), (3, 3, [4]), (3, 4, [1]), (17, 5, [1])], [(20, 0, [])]]
abbrev k_Roofs_load : Nat := 146
def p_m_init : List Nat := [0]
def b_m_init_0 : List mmOp := [(1, 0, [3]), (26, 0, [0, 1]), (1, 0, [3]), (0, 1, [1600]), (23, 0, []), (11, 6, [0, 7]), (1, 0, [3]), (0, 1, [-1]), (11, 6, [8, 13]), (1, 0, [3]), (0, 1, [5]), (23, 2, []), (9, 0, []), (0, 1, [0]), (0, 1, [111]), (13, 2, []), (9, 0, []), (0, 1, [1]), (0, 1, [119]), (13, 2, []), (9, 0, []), (0, 1, [2]), (0, 1, [110]), (13, 2, []), (9, 0, []), (0, 1, [3]), (0, 1, [101]), (13, 2, []), (9, 0, []), (0, 1, [4]), (0, 1, [114]), (13, 2, []), (11, 6, [9, 17]), (1, 0, [3]), (0, 1, [3]), (23, 2, []), (9, 0, []), (0, 1, [0]), (0, 1, [108]), (13, 2, []), (9, 0, []), (0, 1, [1]), (0, 1, [111]), (13, 2, []), (9, 0, []), (0, 1, [2]), (0, 1, [116]), (13, 2, []), (11, 6, [10, 21]), (1, 0, [3]), (0, 1, [2]), (23, 2, []), (9, 0, []), (0, 1, [0]), (0, 1, [111]), (13, 2, []), (9, 0, []), (0, 1, [1]), (0, 1, [102]), (13, 2, []), (11, 6, [11, 24]), (1, 0, [3]), (0, 1, [6]), (23, 2, []), (9, 0, []), (0, 1, [0]), (0, 1, [104]), (13, 2, []), (9, 0, []), (0, 1, [1])]
def b_m_init_1 : List mmOp := [(0, 1, [101]), (13, 2, []), (9, 0, []), (0, 1, [2]), (0, 1, [105]), (13, 2, []), (9, 0, []), (0, 1, [3]), (0, 1, [103]), (13, 2, []), (9, 0, []), (0, 1, [4]), (0, 1, [104]), (13, 2, []), (9, 0, []), (0, 1, [5]), (0, 1, [116]), (13, 2, []), (11, 6, [12, 27]), (1, 0, [3]), (0, 1, [5]), (23, 2, []), (9, 0, []), (0, 1, [0]), (0, 1, [116]), (13, 2, []), (9, 0, []), (0, 1, [1]), (0, 1, [105]), (13, 2, []), (9, 0, []), (0, 1, [2]), (0, 1, [108]), (13, 2, []), (9, 0, []), (0, 1, [3]), (0, 1, [101]), (13, 2, []), (9, 0, []), (0, 1, [4]), (0, 1, [115]), (13, 2, []), (11, 6, [13, 30]), (1, 0, [3]), (0, 1, [3]), (23, 2, []), (9, 0, []), (0, 1, [0]), (0, 1, [105]), (13, 2, []), (9, 0, []), (0, 1, [1]), (0, 1, [110]), (13, 2, []), (9, 0, []), (0, 1, [2]), (0, 1, [110]), (13, 2, []), (11, 6, [14, 33]), (1, 0, [3]), (0, 1, [4]), (23, 2, []), (9, 0, []), (0, 1, [0]), (0, 1, [98]), (13, 2, []), (9, 0, []), (0, 1, [1]), (0, 1, [101]), (13, 2, [])]
def b_m_init_2 : List mmOp := [(9, 0, []), (0, 1, [2]), (0, 1, [100]), (13, 2, []), (9, 0, []), (0, 1, [3]), (0, 1, [115]), (13, 2, []), (11, 6, [15, 36]), (1, 0, [3]), (0, 1, [5]), (23, 2, []), (9, 0, []), (0, 1, [0]), (0, 1, [115]), (13, 2, []), (9, 0, []), (0, 1, [1]), (0, 1, [116]), (13, 2, []), (9, 0, []), (0, 1, [2]), (0, 1, [111]), (13, 2, []), (9, 0, []), (0, 1, [3]), (0, 1, [114]), (13, 2, []), (9, 0, []), (0, 1, [4]), (0, 1, [107]), (13, 2, []), (11, 6, [16, 39]), (1, 0, [3]), (0, 1, [3]), (23, 2, []), (9, 0, []), (0, 1, [0]), (0, 1, [103]), (13, 2, []), (9, 0, []), (0, 1, [1]), (0, 1, [97]), (13, 2, []), (9, 0, []), (0, 1, [2]), (0, 1, [112]), (13, 2, []), (11, 6, [17, 42]), (1, 0, [3]), (0, 1, [4]), (23, 2, []), (9, 0, []), (0, 1, [0]), (0, 1, [119]), (13, 2, []), (9, 0, []), (0, 1, [1]), (0, 1, [105]), (13, 2, []), (9, 0, []), (0, 1, [2]), (0, 1, [100]), (13, 2, []), (9, 0, []), (0, 1, [3]), (0, 1, [101]), (13, 2, []), (11, 6, [18, 45]), (1, 0, [3])]
def b_m_init_3 : List mmOp := [(0, 1, [6]), (23, 2, []), (9, 0, []), (0, 1, [0]), (0, 1, [112]), (13, 2, []), (9, 0, []), (0, 1, [1]), (0, 1, [101]), (13, 2, []), (9, 0, []), (0, 1, [2]), (0, 1, [114]), (13, 2, []), (9, 0, []), (0, 1, [3]), (0, 1, [115]), (13, 2, []), (9, 0, []), (0, 1, [4]), (0, 1, [111]), (13, 2, []), (9, 0, []), (0, 1, [5]), (0, 1, [110]), (13, 2, []), (11, 6, [19, 48]), (1, 0, [3]), (0, 1, [6]), (23, 2, []), (9, 0, []), (0, 1, [0]), (0, 1, [119]), (13, 2, []), (9, 0, []), (0, 1, [1]), (0, 1, [101]), (13, 2, []), (9, 0, []), (0, 1, [2]), (0, 1, [105]), (13, 2, []), (9, 0, []), (0, 1, [3]), (0, 1, [103]), (13, 2, []), (9, 0, []), (0, 1, [4]), (0, 1, [104]), (13, 2, []), (9, 0, []), (0, 1, [5]), (0, 1, [116]), (13, 2, []), (11, 6, [20, 51]), (1, 0, [3]), (0, 1, [4]), (23, 2, []), (9, 0, []), (0, 1, [0]), (0, 1, [108]), (13, 2, []), (9, 0, []), (0, 1, [1]), (0, 1, [101]), (13, 2, []), (9, 0, []), (0, 1, [2]), (0, 1, [97]), (13, 2, [])]
def b_m_init_4 : List mmOp := [(9, 0, []), (0, 1, [3]), (0, 1, [112]), (13, 2, []), (11, 6, [21, 54]), (1, 0, [3]), (0, 1, [5]), (23, 2, []), (9, 0, []), (0, 1, [0]), (0, 1, [99]), (13, 2, []), (9, 0, []), (0, 1, [1]), (0, 1, [108]), (13, 2, []), (9, 0, []), (0, 1, [2]), (0, 1, [105]), (13, 2, []), (9, 0, []), (0, 1, [3]), (0, 1, [109]), (13, 2, []), (9, 0, []), (0, 1, [4]), (0, 1, [98]), (13, 2, []), (11, 6, [22, 57]), (1, 0, [3]), (0, 1, [4]), (23, 2, []), (9, 0, []), (0, 1, [0]), (0, 1, [104]), (13, 2, []), (9, 0, []), (0, 1, [1]), (0, 1, [101]), (13, 2, []), (9, 0, []), (0, 1, [2]), (0, 1, [101]), (13, 2, []), (9, 0, []), (0, 1, [3]), (0, 1, [108]), (13, 2, []), (11, 6, [23, 60]), (1, 0, [3]), (0, 1, [2]), (23, 2, []), (9, 0, []), (0, 1, [0]), (0, 1, [97]), (13, 2, []), (9, 0, []), (0, 1, [1]), (0, 1, [116]), (13, 2, []), (11, 6, [24, 63]), (1, 0, [3]), (0, 1, [2]), (23, 2, []), (9, 0, []), (0, 1, [0]), (0, 1, [116]), (13, 2, []), (9, 0, []), (0, 1, [1])]
def b_m_init_5 : List mmOp := [(0, 1, [111]), (13, 2, []), (11, 6, [25, 66]), (1, 0, [3]), (0, 1, [4]), (23, 2, []), (9, 0, []), (0, 1, [0]), (0, 1, [116]), (13, 2, []), (9, 0, []), (0, 1, [1]), (0, 1, [111]), (13, 2, []), (9, 0, []), (0, 1, [2]), (0, 1, [108]), (13, 2, []), (9, 0, []), (0, 1, [3]), (0, 1, [108]), (13, 2, []), (11, 6, [26, 69]), (1, 0, [3]), (0, 1, [3]), (23, 2, []), (9, 0, []), (0, 1, [0]), (0, 1, [98]), (13, 2, []), (9, 0, []), (0, 1, [1]), (0, 1, [97]), (13, 2, []), (9, 0, []), (0, 1, [2]), (0, 1, [114]), (13, 2, []), (11, 6, [27, 72]), (1, 0, [3]), (0, 1, [4]), (23, 2, []), (9, 0, []), (0, 1, [0]), (0, 1, [119]), (13, 2, []), (9, 0, []), (0, 1, [1]), (0, 1, [104]), (13, 2, []), (9, 0, []), (0, 1, [2]), (0, 1, [101]), (13, 2, []), (9, 0, []), (0, 1, [3]), (0, 1, [110]), (13, 2, []), (11, 6, [28, 75]), (1, 0, [3]), (0, 1, [5]), (23, 2, []), (9, 0, []), (0, 1, [0]), (0, 1, [99]), (13, 2, []), (9, 0, []), (0, 1, [1]), (0, 1, [97]), (13, 2, [])]
def b_m_init_6 : List mmOp := [(9, 0, []), (0, 1, [2]), (0, 1, [114]), (13, 2, []), (9, 0, []), (0, 1, [3]), (0, 1, [114]), (13, 2, []), (9, 0, []), (0, 1, [4]), (0, 1, [121]), (13, 2, []), (11, 6, [29, 78]), (1, 0, [3]), (0, 1, [4]), (23, 2, []), (9, 0, []), (0, 1, [0]), (0, 1, [114]), (13, 2, []), (9, 0, []), (0, 1, [1]), (0, 1, [97]), (13, 2, []), (9, 0, []), (0, 1, [2]), (0, 1, [105]), (13, 2, []), (9, 0, []), (0, 1, [3]), (0, 1, [110]), (13, 2, []), (11, 6, [30, 81]), (1, 0, [3]), (0, 1, [5]), (23, 2, []), (9, 0, []), (0, 1, [0]), (0, 1, [110]), (13, 2, []), (9, 0, []), (0, 1, [1]), (0, 1, [105]), (13, 2, []), (9, 0, []), (0, 1, [2]), (0, 1, [103]), (13, 2, []), (9, 0, []), (0, 1, [3]), (0, 1, [104]), (13, 2, []), (9, 0, []), (0, 1, [4]), (0, 1, [116]), (13, 2, []), (11, 6, [31, 84]), (1, 0, [3]), (0, 1, [2]), (23, 2, []), (9, 0, []), (0, 1, [0]), (0, 1, [111]), (13, 2, []), (9, 0, []), (0, 1, [1]), (0, 1, [114]), (13, 2, []), (11, 6, [32, 87]), (1, 0, [3])]
def b_m_init_7 : List mmOp := [(0, 1, [3]), (23, 2, []), (9, 0, []), (0, 1, [0]), (0, 1, [97]), (13, 2, []), (9, 0, []), (0, 1, [1]), (0, 1, [110]), (13, 2, []), (9, 0, []), (0, 1, [2]), (0, 1, [100]), (13, 2, []), (11, 6, [33, 90]), (1, 0, [3]), (0, 1, [3]), (23, 2, []), (9, 0, []), (0, 1, [0]), (0, 1, [110]), (13, 2, []), (9, 0, []), (0, 1, [1]), (0, 1, [111]), (13, 2, []), (9, 0, []), (0, 1, [2]), (0, 1, [116]), (13, 2, []), (11, 6, [34, 93]), (1, 0, [3]), (0, 1, [3]), (23, 2, []), (9, 0, []), (0, 1, [0]), (0, 1, [97]), (13, 2, []), (9, 0, []), (0, 1, [1]), (0, 1, [108]), (13, 2, []), (9, 0, []), (0, 1, [2]), (0, 1, [108]), (13, 2, []), (11, 6, [35, 96]), (1, 0, [3]), (0, 1, [3]), (23, 2, []), (9, 0, []), (0, 1, [0]), (0, 1, [109]), (13, 2, []), (9, 0, []), (0, 1, [1]), (0, 1, [105]), (13, 2, []), (9, 0, []), (0, 1, [2]), (0, 1, [110]), (13, 2, []), (11, 6, [36, 99]), (1, 0, [3]), (0, 1, [3]), (23, 2, []), (9, 0, []), (0, 1, [0]), (0, 1, [109]), (13, 2, [])]
def b_m_init_8 : List mmOp := [(9, 0, []), (0, 1, [1]), (0, 1, [97]), (13, 2, []), (9, 0, []), (0, 1, [2]), (0, 1, [120]), (13, 2, []), (11, 6, [37, 102]), (1, 0, [3]), (0, 1, [10]), (23, 0, []), (11, 6, [39, 105]), (1, 0, [3]), (0, 1, [60]), (23, 1, []), (11, 6, [40, 108]), (1, 0, [3]), (0, 1, [100]), (23, 0, []), (11, 6, [41, 112]), (1, 0, [3]), (0, 1, [200]), (23, 0, []), (11, 6, [42, 115]), (1, 0, [3]), (0, 1, [72]), (23, 0, []), (11, 6, [43, 118]), (1, 0, [3]), (0, 1, [2]), (23, 0, []), (11, 6, [44, 121]), (1, 0, [3]), (0, 1, [2]), (23, 0, []), (11, 6, [45, 124]), (1, 0, [3]), (0, 1, [16]), (23, 0, []), (11, 6, [46, 127]), (1, 0, [3]), (0, 1, [16]), (23, 0, []), (11, 6, [47, 130]), (1, 0, [3]), (0, 1, [3200]), (23, 0, []), (11, 6, [49, 133]), (1, 0, [3]), (0, 1, [1700]), (23, 0, []), (11, 6, [51, 136]), (1, 0, [3]), (0, 1, [16]), (23, 0, []), (11, 6, [54, 139]), (1, 0, [3]), (0, 1, [16]), (23, 0, []), (11, 6, [55, 142]), (1, 0, [3]), (0, 1, [16]), (23, 0, []), (11, 6, [56, 145]), (1, 0, [3]), (0, 1, [1700]), (23, 1, []), (11, 6, [58, 148]), (1, 0, [3])]
def b_m_init_9 : List mmOp := [(0, 1, [5]), (23, 0, []), (11, 6, [60, 151]), (1, 0, [3]), (0, 1, [210]), (23, 0, []), (11, 6, [61, 154]), (1, 0, [3]), (0, 1, [10]), (23, 3, []), (11, 6, [62, 157]), (1, 0, [3]), (0, 1, [10]), (23, 0, []), (11, 6, [63, 161]), (1, 0, [3]), (0, 1, [10]), (23, 0, []), (11, 6, [64, 164]), (1, 0, [3]), (0, 1, [10]), (23, 0, []), (11, 6, [65, 167]), (1, 0, [3]), (0, 1, [4200]), (23, 0, []), (11, 6, [66, 170]), (1, 0, [3]), (0, 2, [1]), (11, 6, [69, 173]), (1, 0, [3]), (0, 1, [46]), (23, 0, []), (11, 6, [70, 177]), (20, 0, [])]
def b_m_init : List (List mmOp) := [b_m_init_0 ++ (b_m_init_1 ++ (b_m_init_2 ++ (b_m_init_3 ++ (b_m_init_4 ++ (b_m_init_5 ++ (b_m_init_6 ++ (b_m_init_7 ++ (b_m_init_8 ++ (b_m_init_9)))))))))]
abbrev k_m_init : Nat := 147
def p_m_feed : List Nat := [0, 15, 18, 35, 46, 57, 69, 71, 114]
def b_m_feed : List (List mmOp) := [[(1, 0, [3]), (10, 6, [1, 180]), (0, 1, [20]), (4, 0, []), (0, 1, [1600]), (16, 5, [1]), (0, 1, [-1]), (20, 1, [])], [(0, 1, [0]), (2, 6, [1]), (17, 2, [])], [(1, 6, [1]), (0, 1, [20]), (16, 3, [8]), (1, 6, [1]), (0, 1, [4]), (16, 3, [3]), (1, 1, [1]), (17, 7, [1])], [(1, 6, [1]), (0, 1, [8]), (16, 3, [4]), (1, 2, [1]), (17, 7, [1])], [(1, 6, [1]), (0, 1, [12]), (16, 3, [5]), (1, 3, [1]), (17, 7, [1])], [(1, 6, [1]), (0, 1, [16]), (16, 3, [6]), (1, 4, [1]), (17, 7, [1])], [(1, 5, [1]), (17, 7, [])], [(2, 7, [1]), (1, 0, [3]), (10, 6, [0, 7]), (1, 0, [3]), (10, 6, [1, 180]), (1, 7, [1]), (0, 1, [8]), (0, 1, [3]), (1, 6, [1]), (0, 1, [4]), (6, 1, []), (4, 1, []), (4, 2, []), (4, 7, []), (0, 1, [255]), (4, 3, []), (13, 0, []), (1, 0, [3]), (9, 0, []), (10, 6, [1, 180]), (0, 1, [1]), (4, 0, []), (11, 6, [1, 180]), (3, 6, [1]), (17, 2, [1])], [(1, 0, [3]), (10, 6, [1, 180]), (20, 1, [])]]
abbrev k_m_feed : Nat := 148
def p_m_end : List Nat := [0, 12, 14]
def b_m_end : List (List mmOp) := [[(1, 1, [1]), (15, 2, [1]), (1, 1, [1]), (1, 0, [3]), (10, 6, [1, 180]), (16, 5, [2]), (17, 1, [])], [(0, 1, [0]), (20, 4, [])], [(1, 0, [3]), (1, 1, [1]), (11, 6, [1, 180]), (0, 1, [1]), (20, 4, [])]]
abbrev k_m_end : Nat := 149
def p_m_town : List Nat := [0, 59, 77, 99, 124]
def b_m_town : List (List mmOp) := [[(1, 0, [3]), (1, 0, [3]), (10, 6, [1, 180]), (11, 6, [3, 192]), (1, 0, [3]), (0, 1, [0]), (11, 6, [1, 180]), (1, 0, [3]), (0, 1, [0]), (11, 6, [2, 189]), (1, 0, [3]), (0, 1, [-1]), (11, 6, [4, 203]), (1, 0, [3]), (0, 1, [0]), (11, 6, [5, 183]), (1, 0, [3]), (0, 1, [-1]), (11, 6, [6, 186]), (1, 0, [3]), (0, 1, [0]), (11, 6, [48, 286]), (1, 0, [3]), (0, 1, [0]), (11, 6, [50, 274]), (1, 0, [3]), (10, 6, [44, 121]), (0, 1, [0]), (0, 1, [5]), (13, 0, []), (1, 0, [3]), (10, 6, [45, 124]), (0, 1, [0]), (0, 1, [0]), (13, 0, []), (0, 1, [0]), (2, 1, [1]), (17, 1, [])], [(1, 1, [1]), (0, 1, [5]), (16, 3, [2]), (1, 0, [3]), (10, 6, [39, 105]), (1, 1, [1]), (0, 1, [0]), (13, 0, []), (3, 1, [1]), (17, 1, [1])], [(1, 0, [3]), (10, 6, [5, 183]), (15, 1, [3]), (1, 0, [3]), (21, 151, [0, 195]), (0, 1, [-1]), (16, 0, [3]), (1, 0, [3]), (21, 152, [0, 315]), (17, 2, [1])], [(1, 0, [3]), (1, 0, [3]), (10, 6, [5, 183]), (11, 6, [7, 318]), (1, 0, [3]), (1, 0, [3]), (10, 6, [6, 186]), (11, 6, [8, 13]), (1, 0, [3]), (10, 6, [5, 183]), (15, 0, [4]), (0, 1, [-1]), (20, 1, [])], [(1, 0, [3]), (21, 192, [0, 321]), (1, 0, [3]), (10, 6, [48, 286]), (20, 1, [])]]
abbrev k_m_town : Nat := 150
def p_m_look : List Nat := [0, 39, 52, 75, 76]
def b_m_look : List (List mmOp) := [[(1, 0, [3]), (10, 6, [2, 189]), (1, 0, [3]), (10, 6, [3, 192]), (16, 3, [2]), (1, 0, [3]), (10, 6, [0, 7]), (1, 0, [3]), (10, 6, [2, 189]), (12, 0, []), (0, 1, [10]), (16, 0, [1]), (1, 0, [3]), (10, 6, [0, 7]), (1, 0, [3]), (10, 6, [2, 189]), (12, 0, []), (0, 1, [32]), (16, 1, [2]), (17, 1, [])], [(1, 0, [3]), (9, 0, []), (10, 6, [2, 189]), (0, 1, [1]), (4, 0, []), (11, 6, [2, 189]), (17, 0, [1])], [(1, 0, [3]), (10, 6, [2, 189]), (1, 0, [3]), (10, 6, [3, 192]), (16, 3, [3]), (1, 0, [3]), (10, 6, [0, 7]), (1, 0, [3]), (10, 6, [2, 189]), (12, 0, []), (17, 4, [1])], [(0, 1, [-1]), (17, 4, [])], [(20, 1, [])]]
abbrev k_m_look : Nat := 151
def p_m_statementTold : List Nat := [0, 21, 40, 59, 77, 95, 114, 133, 153, 173, 200, 221]
def b_m_statementTold : List (List mmOp) := [[(1, 0, [3]), (10, 6, [2, 189]), (2, 1, [1]), (1, 0, [3]), (10, 6, [48, 286]), (0, 1, [80]), (16, 1, [1]), (1, 0, [3]), (0, 1, [5]), (1, 1, [1]), (21, 153, [0, 213]), (20, 0, [])], [(1, 0, [3]), (1, 0, [3]), (10, 6, [9, 17]), (21, 154, [0, 210]), (15, 0, [2]), (1, 0, [3]), (1, 1, [1]), (21, 157, [0, 289]), (17, 11, [1])], [(1, 0, [3]), (1, 0, [3]), (10, 6, [10, 21]), (21, 154, [0, 210]), (15, 0, [3]), (1, 0, [3]), (1, 1, [1]), (21, 163, [0, 293]), (17, 11, [1])], [(1, 0, [3]), (1, 0, [3]), (10, 6, [14, 33]), (21, 154, [0, 210]), (15, 0, [4]), (1, 0, [3]), (21, 169, [0, 296]), (17, 11, [1])], [(1, 0, [3]), (1, 0, [3]), (10, 6, [16, 39]), (21, 154, [0, 210]), (15, 0, [5]), (1, 0, [3]), (21, 170, [0, 299]), (17, 11, [1])], [(1, 0, [3]), (1, 0, [3]), (10, 6, [17, 42]), (21, 154, [0, 210]), (15, 0, [6]), (1, 0, [3]), (1, 1, [1]), (21, 171, [0, 302]), (17, 11, [1])], [(1, 0, [3]), (1, 0, [3]), (10, 6, [19, 48]), (21, 154, [0, 210]), (15, 0, [7]), (1, 0, [3]), (1, 1, [1]), (21, 172, [0, 305]), (17, 11, [1])], [(1, 0, [3]), (1, 0, [3]), (10, 6, [26, 69]), (21, 154, [0, 210]), (15, 0, [8]), (1, 0, [3]), (1, 1, [1]), (0, 1, [0]), (21, 173, [0, 308]), (17, 11, [1])], [(1, 0, [3]), (1, 0, [3]), (10, 6, [27, 72]), (21, 154, [0, 210]), (15, 0, [9]), (1, 0, [3]), (1, 1, [1]), (0, 1, [1]), (21, 173, [0, 308]), (17, 11, [1])], [(1, 0, [3]), (1, 0, [3]), (10, 6, [29, 78]), (21, 154, [0, 210]), (15, 0, [10]), (1, 0, [3]), (10, 6, [44, 121]), (0, 1, [0]), (1, 0, [3]), (0, 1, [1]), (0, 1, [20]), (21, 166, [0, 261]), (13, 0, []), (17, 11, [1])], [(1, 0, [3]), (1, 0, [3]), (10, 6, [30, 81]), (21, 164, [0, 253]), (1, 0, [3]), (10, 6, [45, 124]), (0, 1, [0]), (1, 0, [3]), (0, 1, [0]), (0, 1, [100]), (21, 166, [0, 261]), (13, 0, []), (17, 11, [])], [(1, 0, [3]), (0, 1, [59]), (21, 178, [0, 312]), (1, 0, [3]), (9, 0, []), (10, 6, [48, 286]), (0, 1, [1]), (4, 0, []), (11, 6, [48, 286]), (20, 0, [])]]
abbrev k_m_statementTold : Nat := 152
def p_m_fail : List Nat := [0, 8]
def b_m_fail : List (List mmOp) := [[(1, 0, [3]), (10, 6, [5, 183]), (15, 0, [1]), (20, 0, [])], [(1, 0, [3]), (1, 1, [1]), (11, 6, [5, 183]), (1, 0, [3]), (1, 2, [1]), (11, 6, [6, 186]), (20, 0, [])]]
abbrev k_m_fail : Nat := 153
def p_m_takes : List Nat := [0, 10]
def b_m_takes : List (List mmOp) := [[(1, 0, [3]), (1, 1, [3]), (21, 155, [0, 206]), (15, 1, [1]), (0, 1, [0]), (20, 4, [])], [(1, 0, [3]), (9, 0, []), (10, 6, [2, 189]), (1, 1, [3]), (14, 0, []), (4, 0, []), (11, 6, [2, 189]), (1, 0, [3]), (1, 0, [3]), (10, 6, [2, 189]), (11, 6, [4, 203]), (0, 1, [1]), (20, 4, [])]]
abbrev k_m_takes : Nat := 154
def p_m_isHere : List Nat := [0, 28, 30, 35, 61, 74, 76, 101, 107]
def b_m_isHere : List (List mmOp) := [[(1, 0, [3]), (10, 6, [5, 183]), (15, 1, [1]), (1, 0, [3]), (21, 151, [0, 195]), (21, 156, [1, 199]), (15, 0, [1]), (1, 0, [3]), (10, 6, [2, 189]), (1, 0, [3]), (10, 6, [4, 203]), (16, 1, [2]), (17, 1, [])], [(0, 1, [0]), (20, 4, [])], [(1, 0, [3]), (10, 6, [2, 189]), (2, 2, [1]), (17, 3, [])], [(1, 2, [1]), (1, 0, [3]), (10, 6, [3, 192]), (16, 3, [4]), (1, 0, [3]), (10, 6, [0, 7]), (1, 2, [1]), (12, 0, []), (21, 156, [1, 199]), (15, 0, [4]), (3, 2, [1]), (17, 3, [1])], [(1, 2, [1]), (1, 0, [3]), (10, 6, [2, 189]), (4, 1, []), (1, 1, [3]), (14, 0, []), (16, 0, [5]), (0, 1, [0]), (20, 4, [])], [(0, 1, [0]), (2, 3, [1]), (17, 6, [])], [(1, 3, [1]), (1, 1, [3]), (14, 0, []), (16, 3, [8]), (1, 0, [3]), (10, 6, [0, 7]), (1, 0, [3]), (10, 6, [2, 189]), (1, 3, [1]), (4, 0, []), (12, 0, []), (1, 1, [3]), (1, 3, [1]), (12, 2, []), (16, 0, [7]), (0, 1, [0]), (20, 4, [])], [(3, 3, [1]), (17, 6, [1])], [(0, 1, [1]), (20, 4, [])]]
abbrev k_m_isHere : Nat := 155
def p_m_isLetter : List Nat := [0, 16, 17]
def b_m_isLetter : List (List mmOp) := [[(1, 0, [1]), (0, 1, [97]), (16, 2, [1]), (1, 0, [1]), (0, 1, [122]), (16, 4, [1]), (0, 1, [1]), (17, 2, [1])], [(0, 1, [0]), (17, 2, [])], [(20, 4, [])]]
abbrev k_m_isLetter : Nat := 156
def p_m_ownerTold : List Nat := [0, 11, 24]
def b_m_ownerTold : List (List mmOp) := [[(1, 0, [3]), (0, 1, [0]), (0, 1, [5]), (1, 1, [1]), (21, 158, [0, 246]), (15, 0, [1]), (20, 0, [])], [(1, 0, [3]), (21, 159, [0, 250]), (2, 2, [2]), (1, 0, [3]), (10, 6, [5, 183]), (15, 0, [2]), (20, 0, [])], [(1, 0, [3]), (10, 6, [40, 108]), (1, 0, [3]), (10, 6, [39, 105]), (0, 1, [0]), (12, 0, []), (1, 2, [2]), (13, 1, []), (1, 0, [3]), (10, 6, [39, 105]), (0, 1, [0]), (9, 1, []), (12, 0, []), (0, 1, [1]), (4, 0, []), (13, 0, []), (20, 0, [])]]
abbrev k_m_ownerTold : Nat := 157
def p_m_isFull : List Nat := [0, 23, 34, 35]
def b_m_isFull : List (List mmOp) := [[(1, 0, [3]), (10, 6, [5, 183]), (15, 1, [1]), (1, 0, [3]), (10, 6, [39, 105]), (1, 1, [1]), (12, 0, []), (1, 2, [1]), (16, 1, [1]), (1, 0, [3]), (0, 1, [5]), (1, 3, [1]), (21, 153, [0, 213]), (17, 1, [])], [(1, 0, [3]), (10, 6, [5, 183]), (15, 0, [2]), (0, 1, [1]), (17, 3, [1])], [(0, 1, [0]), (17, 3, [])], [(20, 4, [])]]
abbrev k_m_isFull : Nat := 158
def p_m_newName : List Nat := [0, 7, 38, 44]
def b_m_newName : List (List mmOp) := [[(1, 0, [3]), (21, 160, [0, 238]), (2, 1, [2]), (0, 1, [0]), (2, 3, [1]), (17, 1, [])], [(1, 3, [1]), (0, 1, [3]), (16, 3, [3]), (1, 0, [3]), (10, 6, [5, 183]), (15, 1, [2]), (1, 0, [3]), (1, 3, [1]), (1, 1, [2]), (21, 162, [0, 242]), (0, 1, [-1]), (16, 0, [2]), (1, 0, [3]), (0, 1, [3]), (1, 0, [3]), (10, 6, [38, 231]), (21, 153, [0, 213]), (17, 2, [])], [(3, 3, [1]), (17, 1, [1])], [(1, 1, [2]), (20, 2, [])]]
abbrev k_m_newName : Nat := 159
def p_m_name : List Nat := [0, 9, 37, 48, 58, 109, 145]
def b_m_name : List (List mmOp) := [[(1, 0, [3]), (10, 6, [5, 183]), (15, 0, [1]), (0, 2, [0]), (20, 2, [])], [(1, 0, [3]), (21, 151, [0, 195]), (21, 156, [1, 199]), (15, 0, [2]), (1, 0, [3]), (10, 6, [2, 189]), (1, 0, [3]), (10, 6, [4, 203]), (16, 0, [2]), (1, 0, [3]), (21, 161, [0, 227]), (15, 0, [3]), (17, 2, [])], [(1, 0, [3]), (0, 1, [1]), (1, 0, [3]), (10, 6, [2, 189]), (21, 153, [0, 213]), (0, 2, [0]), (20, 2, [])], [(1, 0, [3]), (1, 0, [3]), (10, 6, [2, 189]), (11, 6, [38, 231]), (0, 2, [0]), (2, 1, [2]), (17, 4, [])], [(1, 0, [3]), (10, 6, [2, 189]), (1, 0, [3]), (10, 6, [3, 192]), (16, 3, [6]), (1, 0, [3]), (10, 6, [0, 7]), (1, 0, [3]), (10, 6, [2, 189]), (12, 0, []), (21, 156, [1, 199]), (15, 0, [6]), (1, 0, [3]), (10, 6, [2, 189]), (1, 0, [3]), (10, 6, [38, 231]), (4, 1, []), (0, 1, [6]), (16, 1, [5]), (1, 0, [3]), (0, 1, [1]), (1, 0, [3]), (10, 6, [2, 189]), (21, 153, [0, 213]), (0, 2, [0]), (20, 2, [])], [(0, 2, [27, 234]), (1, 1, [2]), (5, 2, []), (1, 0, [3]), (10, 6, [0, 7]), (1, 0, [3]), (10, 6, [2, 189]), (12, 0, []), (7, 0, []), (5, 0, []), (0, 2, [97, 236]), (5, 1, []), (0, 2, [1]), (5, 0, []), (2, 1, [2]), (1, 0, [3]), (9, 0, []), (10, 6, [2, 189]), (0, 1, [1]), (4, 0, []), (11, 6, [2, 189]), (17, 4, [1])], [(1, 0, [3]), (1, 0, [3]), (10, 6, [2, 189]), (11, 6, [4, 203]), (1, 1, [2]), (20, 2, [])]]
abbrev k_m_name : Nat := 160
def p_m_isOwnHere : List Nat := [0, 66, 70, 71, 142, 146, 147, 218, 222, 223, 294, 298, 299, 359, 363, 364]
def b_m_isOwnHere : List (List mmOp) := [[(1, 0, [3]), (1, 0, [3]), (10, 6, [9, 17]), (21, 155, [0, 206]), (15, 1, [1]), (1, 0, [3]), (1, 0, [3]), (10, 6, [10, 21]), (21, 155, [0, 206]), (15, 1, [1]), (1, 0, [3]), (1, 0, [3]), (10, 6, [11, 24]), (21, 155, [0, 206]), (15, 1, [1]), (1, 0, [3]), (1, 0, [3]), (10, 6, [12, 27]), (21, 155, [0, 206]), (15, 1, [1]), (1, 0, [3]), (1, 0, [3]), (10, 6, [13, 30]), (21, 155, [0, 206]), (15, 1, [1]), (1, 0, [3]), (1, 0, [3]), (10, 6, [14, 33]), (21, 155, [0, 206]), (15, 0, [2]), (17, 1, [])], [(0, 1, [1]), (17, 3, [1])], [(0, 1, [0]), (17, 3, [])], [(2, 1, [1]), (1, 1, [1]), (15, 1, [4]), (1, 0, [3]), (1, 0, [3]), (10, 6, [15, 36]), (21, 155, [0, 206]), (15, 1, [4]), (1, 0, [3]), (1, 0, [3]), (10, 6, [16, 39]), (21, 155, [0, 206]), (15, 1, [4]), (1, 0, [3]), (1, 0, [3]), (10, 6, [17, 42]), (21, 155, [0, 206]), (15, 1, [4]), (1, 0, [3]), (1, 0, [3]), (10, 6, [18, 45]), (21, 155, [0, 206]), (15, 1, [4]), (1, 0, [3]), (1, 0, [3]), (10, 6, [19, 48]), (21, 155, [0, 206]), (15, 1, [4]), (1, 0, [3]), (1, 0, [3]), (10, 6, [20, 51]), (21, 155, [0, 206]), (15, 0, [5]), (17, 4, [])], [(0, 1, [1]), (17, 6, [1])], [(0, 1, [0]), (17, 6, [])], [(2, 1, [1]), (1, 1, [1]), (15, 1, [7]), (1, 0, [3]), (1, 0, [3]), (10, 6, [21, 54]), (21, 155, [0, 206]), (15, 1, [7]), (1, 0, [3]), (1, 0, [3]), (10, 6, [22, 57]), (21, 155, [0, 206]), (15, 1, [7]), (1, 0, [3]), (1, 0, [3]), (10, 6, [23, 60]), (21, 155, [0, 206]), (15, 1, [7]), (1, 0, [3]), (1, 0, [3]), (10, 6, [24, 63]), (21, 155, [0, 206]), (15, 1, [7]), (1, 0, [3]), (1, 0, [3]), (10, 6, [25, 66]), (21, 155, [0, 206]), (15, 1, [7]), (1, 0, [3]), (1, 0, [3]), (10, 6, [26, 69]), (21, 155, [0, 206]), (15, 0, [8]), (17, 7, [])], [(0, 1, [1]), (17, 9, [1])], [(0, 1, [0]), (17, 9, [])], [(2, 1, [1]), (1, 1, [1]), (15, 1, [10]), (1, 0, [3]), (1, 0, [3]), (10, 6, [27, 72]), (21, 155, [0, 206]), (15, 1, [10]), (1, 0, [3]), (1, 0, [3]), (10, 6, [28, 75]), (21, 155, [0, 206]), (15, 1, [10]), (1, 0, [3]), (1, 0, [3]), (10, 6, [29, 78]), (21, 155, [0, 206]), (15, 1, [10]), (1, 0, [3]), (1, 0, [3]), (10, 6, [30, 81]), (21, 155, [0, 206]), (15, 1, [10]), (1, 0, [3]), (1, 0, [3]), (10, 6, [31, 84]), (21, 155, [0, 206]), (15, 1, [10]), (1, 0, [3]), (1, 0, [3]), (10, 6, [32, 87]), (21, 155, [0, 206]), (15, 0, [11]), (17, 10, [])], [(0, 1, [1]), (17, 12, [1])], [(0, 1, [0]), (17, 12, [])], [(2, 1, [1]), (1, 1, [1]), (15, 1, [13]), (1, 0, [3]), (1, 0, [3]), (10, 6, [33, 90]), (21, 155, [0, 206]), (15, 1, [13]), (1, 0, [3]), (1, 0, [3]), (10, 6, [34, 93]), (21, 155, [0, 206]), (15, 1, [13]), (1, 0, [3]), (1, 0, [3]), (10, 6, [35, 96]), (21, 155, [0, 206]), (15, 1, [13]), (1, 0, [3]), (1, 0, [3]), (10, 6, [36, 99]), (21, 155, [0, 206]), (15, 1, [13]), (1, 0, [3]), (1, 0, [3]), (10, 6, [37, 102]), (21, 155, [0, 206]), (15, 0, [14]), (17, 13, [])], [(0, 1, [1]), (17, 15, [1])], [(0, 1, [0]), (17, 15, [])], [(2, 1, [1]), (1, 1, [1]), (20, 4, [])]]
abbrev k_m_isOwnHere : Nat := 161
def p_m_nameOf : List Nat := [0, 3, 34, 40]
def b_m_nameOf : List (List mmOp) := [[(0, 1, [0]), (2, 4, [1]), (17, 1, [])], [(1, 4, [1]), (1, 0, [3]), (10, 6, [39, 105]), (1, 1, [1]), (12, 0, []), (16, 3, [3]), (1, 0, [3]), (10, 6, [40, 108]), (0, 1, [10]), (1, 1, [1]), (4, 2, []), (1, 4, [1]), (4, 0, []), (12, 1, []), (1, 2, [2]), (8, 0, []), (15, 1, [2]), (1, 4, [1]), (20, 1, [])], [(3, 4, [1]), (17, 1, [1])], [(0, 1, [-1]), (20, 1, [])]]
abbrev k_m_nameOf : Nat := 162
def p_m_lotTold : List Nat := [0, 12, 81, 150, 189]
def b_m_lotTold : List (List mmOp) := [[(1, 0, [3]), (0, 1, [1]), (0, 1, [10]), (1, 1, [1]), (21, 158, [0, 246]), (15, 0, [1]), (20, 0, [])], [(1, 0, [3]), (10, 6, [39, 105]), (0, 1, [1]), (12, 0, []), (2, 2, [1]), (1, 0, [3]), (21, 159, [0, 250]), (2, 3, [2]), (1, 0, [3]), (1, 0, [3]), (10, 6, [11, 24]), (21, 164, [0, 253]), (1, 0, [3]), (0, 1, [0]), (21, 165, [0, 257]), (2, 5, [1]), (1, 0, [3]), (1, 0, [3]), (10, 6, [12, 27]), (21, 164, [0, 253]), (1, 0, [3]), (0, 1, [0]), (0, 1, [20]), (21, 166, [0, 261]), (2, 6, [1]), (1, 0, [3]), (1, 0, [3]), (10, 6, [13, 30]), (21, 164, [0, 253]), (1, 0, [3]), (0, 1, [0]), (0, 1, [30]), (21, 166, [0, 261]), (2, 7, [1]), (1, 0, [3]), (10, 6, [5, 183]), (15, 0, [2]), (20, 0, [])], [(1, 0, [3]), (10, 6, [40, 108]), (0, 1, [10]), (1, 2, [1]), (4, 0, []), (1, 3, [2]), (13, 1, []), (1, 0, [3]), (10, 6, [41, 112]), (0, 1, [5]), (1, 2, [1]), (4, 2, []), (1, 5, [1]), (13, 0, []), (1, 0, [3]), (10, 6, [41, 112]), (0, 1, [5]), (1, 2, [1]), (4, 2, []), (0, 1, [1]), (4, 0, []), (1, 6, [1]), (13, 0, []), (1, 0, [3]), (10, 6, [41, 112]), (0, 1, [5]), (1, 2, [1]), (4, 2, []), (0, 1, [2]), (4, 0, []), (1, 7, [1]), (13, 0, []), (1, 0, [3]), (10, 6, [41, 112]), (0, 1, [5]), (1, 2, [1]), (4, 2, []), (0, 1, [3]), (4, 0, []), (0, 1, [0]), (13, 0, []), (1, 0, [3]), (10, 6, [41, 112]), (0, 1, [5]), (1, 2, [1]), (4, 2, []), (0, 1, [4]), (4, 0, []), (0, 1, [0]), (13, 0, []), (0, 1, [0]), (2, 8, [1]), (17, 3, [])], [(1, 8, [1]), (0, 1, [10]), (16, 3, [4]), (1, 0, [3]), (10, 6, [42, 115]), (0, 1, [10]), (1, 2, [1]), (4, 2, []), (1, 8, [1]), (4, 0, []), (0, 1, [0]), (13, 0, []), (1, 0, [3]), (10, 6, [42, 115]), (0, 1, [10]), (1, 8, [1]), (4, 2, []), (1, 2, [1]), (4, 0, []), (0, 1, [0]), (13, 0, []), (3, 8, [1]), (17, 3, [1])], [(1, 0, [3]), (10, 6, [39, 105]), (0, 1, [1]), (9, 1, []), (12, 0, []), (0, 1, [1]), (4, 0, []), (13, 0, []), (20, 0, [])]]
abbrev k_m_lotTold : Nat := 163
def p_m_asks : List Nat := [0, 24]
def b_m_asks : List (List mmOp) := [[(1, 0, [3]), (10, 6, [5, 183]), (15, 1, [1]), (1, 0, [3]), (1, 1, [3]), (21, 154, [0, 210]), (15, 1, [1]), (1, 0, [3]), (0, 1, [1]), (1, 0, [3]), (10, 6, [2, 189]), (21, 153, [0, 213]), (17, 1, [])], [(20, 0, [])]]
abbrev k_m_asks : Nat := 164
def p_m_oneOf : List Nat := [0, 35, 47, 48]
def b_m_oneOf : List (List mmOp) := [[(1, 0, [3]), (21, 160, [0, 238]), (2, 2, [2]), (1, 0, [3]), (1, 1, [1]), (1, 2, [2]), (21, 162, [0, 242]), (2, 4, [1]), (1, 0, [3]), (10, 6, [5, 183]), (15, 1, [1]), (1, 4, [1]), (0, 1, [-1]), (16, 1, [1]), (1, 0, [3]), (0, 1, [3]), (1, 0, [3]), (10, 6, [38, 231]), (21, 153, [0, 213]), (17, 1, [])], [(1, 0, [3]), (10, 6, [5, 183]), (15, 1, [2]), (1, 4, [1]), (17, 3, [1])], [(0, 1, [0]), (17, 3, [])], [(20, 1, [])]]
abbrev k_m_oneOf : Nat := 165
def p_m_number : List Nat := [0, 9, 30, 41, 49, 96, 129, 156]
def b_m_number : List (List mmOp) := [[(1, 0, [3]), (10, 6, [5, 183]), (15, 0, [1]), (0, 1, [0]), (20, 1, [])], [(1, 0, [3]), (21, 151, [0, 195]), (21, 167, [1, 220]), (15, 0, [2]), (1, 0, [3]), (10, 6, [2, 189]), (1, 0, [3]), (10, 6, [4, 203]), (16, 1, [3]), (17, 2, [])], [(1, 0, [3]), (0, 1, [1]), (1, 0, [3]), (10, 6, [2, 189]), (21, 153, [0, 213]), (0, 1, [0]), (20, 1, [])], [(1, 0, [3]), (10, 6, [2, 189]), (2, 3, [1]), (0, 1, [0]), (2, 4, [1]), (17, 4, [])], [(1, 0, [3]), (10, 6, [2, 189]), (1, 0, [3]), (10, 6, [3, 192]), (16, 3, [6]), (1, 0, [3]), (10, 6, [0, 7]), (1, 0, [3]), (10, 6, [2, 189]), (12, 0, []), (21, 167, [1, 220]), (15, 0, [6]), (1, 0, [3]), (10, 6, [2, 189]), (1, 3, [1]), (4, 1, []), (0, 1, [4]), (16, 1, [5]), (1, 0, [3]), (0, 1, [1]), (1, 0, [3]), (10, 6, [2, 189]), (21, 153, [0, 213]), (0, 1, [0]), (20, 1, [])], [(0, 1, [10]), (1, 4, [1]), (4, 2, []), (1, 0, [3]), (10, 6, [0, 7]), (1, 0, [3]), (10, 6, [2, 189]), (12, 0, []), (4, 0, []), (0, 1, [48]), (4, 1, []), (2, 4, [1]), (1, 0, [3]), (9, 0, []), (10, 6, [2, 189]), (0, 1, [1]), (4, 0, []), (11, 6, [2, 189]), (17, 4, [1])], [(1, 0, [3]), (1, 0, [3]), (10, 6, [2, 189]), (11, 6, [4, 203]), (1, 4, [1]), (7, 0, []), (1, 1, [1]), (7, 0, []), (1, 2, [1]), (7, 0, []), (21, 168, [1, 223]), (15, 1, [7]), (1, 0, [3]), (0, 1, [2]), (1, 3, [1]), (21, 153, [0, 213]), (17, 7, [])], [(1, 4, [1]), (20, 1, [])]]
abbrev k_m_number : Nat := 166
def p_m_isDigit : List Nat := [0, 16, 17]
def b_m_isDigit : List (List mmOp) := [[(1, 0, [1]), (0, 1, [48]), (16, 2, [1]), (1, 0, [1]), (0, 1, [57]), (16, 4, [1]), (0, 1, [1]), (17, 2, [1])], [(0, 1, [0]), (17, 2, [])], [(20, 4, [])]]
abbrev k_m_isDigit : Nat := 167
def p_m_isIn : List Nat := [0, 17, 18]
def b_m_isIn : List (List mmOp) := [[(1, 0, [2]), (1, 2, [2]), (8, 0, []), (15, 2, [1]), (1, 0, [2]), (1, 4, [2]), (8, 0, []), (15, 4, [1]), (0, 1, [1]), (17, 2, [1])], [(0, 1, [0]), (17, 2, [])], [(20, 4, [])]]
abbrev k_m_isIn : Nat := 168
def p_m_innTold : List Nat := [0, 35, 69]
def b_m_innTold : List (List mmOp) := [[(1, 0, [3]), (0, 1, [1]), (21, 165, [0, 257]), (2, 1, [1]), (1, 0, [3]), (10, 6, [5, 183]), (15, 1, [1]), (1, 0, [3]), (10, 6, [41, 112]), (0, 1, [5]), (1, 1, [1]), (4, 2, []), (0, 1, [3]), (4, 0, []), (12, 0, []), (15, 5, [1]), (1, 0, [3]), (0, 1, [3]), (1, 0, [3]), (10, 6, [38, 231]), (21, 153, [0, 213]), (17, 1, [])], [(1, 0, [3]), (1, 0, [3]), (10, 6, [15, 36]), (21, 164, [0, 253]), (1, 0, [3]), (0, 1, [1]), (0, 1, [9]), (21, 166, [0, 261]), (2, 2, [1]), (1, 0, [3]), (10, 6, [5, 183]), (15, 1, [2]), (1, 0, [3]), (10, 6, [41, 112]), (0, 1, [5]), (1, 1, [1]), (4, 2, []), (0, 1, [3]), (4, 0, []), (1, 2, [1]), (13, 0, []), (17, 2, [])], [(20, 0, [])]]
abbrev k_m_innTold : Nat := 169
def p_m_storkTold : List Nat := [0, 35, 53]
def b_m_storkTold : List (List mmOp) := [[(1, 0, [3]), (0, 1, [1]), (21, 165, [0, 257]), (2, 1, [1]), (1, 0, [3]), (10, 6, [5, 183]), (15, 1, [1]), (1, 0, [3]), (10, 6, [41, 112]), (0, 1, [5]), (1, 1, [1]), (4, 2, []), (0, 1, [4]), (4, 0, []), (12, 0, []), (15, 5, [1]), (1, 0, [3]), (0, 1, [3]), (1, 0, [3]), (10, 6, [38, 231]), (21, 153, [0, 213]), (17, 1, [])], [(1, 0, [3]), (10, 6, [5, 183]), (15, 1, [2]), (1, 0, [3]), (10, 6, [41, 112]), (0, 1, [5]), (1, 1, [1]), (4, 2, []), (0, 1, [4]), (4, 0, []), (0, 1, [1]), (13, 0, []), (17, 2, [])], [(20, 0, [])]]
abbrev k_m_storkTold : Nat := 170
def p_m_gapTold : List Nat := [0, 12, 50, 59, 84]
def b_m_gapTold : List (List mmOp) := [[(1, 0, [3]), (0, 1, [3]), (0, 1, [20]), (1, 1, [1]), (21, 158, [0, 246]), (15, 0, [1]), (20, 0, [])], [(1, 0, [3]), (0, 1, [1]), (21, 165, [0, 257]), (2, 2, [1]), (1, 0, [3]), (0, 1, [1]), (21, 165, [0, 257]), (2, 3, [1]), (1, 0, [3]), (10, 6, [5, 183]), (15, 1, [3]), (1, 2, [1]), (1, 3, [1]), (16, 0, [2]), (1, 0, [3]), (10, 6, [42, 115]), (0, 1, [10]), (1, 2, [1]), (4, 2, []), (1, 3, [1]), (4, 0, []), (12, 0, []), (15, 5, [3]), (17, 2, [])], [(1, 0, [3]), (0, 1, [3]), (1, 0, [3]), (10, 6, [38, 231]), (21, 153, [0, 213]), (17, 3, [])], [(1, 0, [3]), (1, 0, [3]), (10, 6, [18, 45]), (21, 164, [0, 253]), (1, 0, [3]), (0, 1, [0]), (0, 1, [9]), (21, 166, [0, 261]), (2, 4, [1]), (1, 0, [3]), (10, 6, [5, 183]), (15, 0, [4]), (20, 0, [])], [(1, 0, [3]), (10, 6, [42, 115]), (0, 1, [10]), (1, 2, [1]), (4, 2, []), (1, 3, [1]), (4, 0, []), (1, 4, [1]), (0, 1, [1]), (4, 0, []), (13, 0, []), (1, 0, [3]), (10, 6, [42, 115]), (0, 1, [10]), (1, 3, [1]), (4, 2, []), (1, 2, [1]), (4, 0, []), (1, 4, [1]), (0, 1, [1]), (4, 0, []), (13, 0, []), (1, 0, [3]), (10, 6, [39, 105]), (0, 1, [3]), (9, 1, []), (12, 0, []), (0, 1, [1]), (4, 0, []), (13, 0, []), (20, 0, [])]]
abbrev k_m_gapTold : Nat := 171
def p_m_personTold : List Nat := [0, 12, 148, 156]
def b_m_personTold : List (List mmOp) := [[(1, 0, [3]), (0, 1, [2]), (0, 1, [6]), (1, 1, [1]), (21, 158, [0, 246]), (15, 0, [1]), (20, 0, [])], [(0, 1, [6]), (1, 0, [3]), (10, 6, [39, 105]), (0, 1, [2]), (12, 0, []), (4, 2, []), (2, 2, [1]), (1, 0, [3]), (21, 159, [0, 250]), (2, 3, [2]), (1, 0, [3]), (1, 0, [3]), (10, 6, [20, 51]), (21, 164, [0, 253]), (1, 0, [3]), (0, 1, [1]), (0, 1, [99]), (21, 166, [0, 261]), (2, 5, [1]), (1, 0, [3]), (1, 0, [3]), (10, 6, [21, 54]), (21, 164, [0, 253]), (1, 0, [3]), (0, 1, [0]), (0, 1, [9]), (21, 166, [0, 261]), (2, 6, [1]), (1, 0, [3]), (1, 0, [3]), (10, 6, [22, 57]), (21, 164, [0, 253]), (1, 0, [3]), (0, 1, [0]), (0, 1, [20]), (21, 166, [0, 261]), (2, 7, [1]), (1, 0, [3]), (1, 0, [3]), (10, 6, [23, 60]), (21, 164, [0, 253]), (1, 0, [3]), (0, 1, [0]), (0, 1, [9]), (21, 166, [0, 261]), (2, 8, [1]), (1, 0, [3]), (1, 0, [3]), (10, 6, [24, 63]), (21, 164, [0, 253]), (1, 0, [3]), (0, 1, [1]), (21, 165, [0, 257]), (2, 9, [1]), (1, 0, [3]), (1, 0, [3]), (10, 6, [25, 66]), (21, 164, [0, 253]), (1, 0, [3]), (0, 1, [1]), (21, 165, [0, 257]), (2, 10, [1]), (1, 0, [3]), (10, 6, [5, 183]), (15, 1, [2]), (1, 9, [1]), (1, 10, [1]), (16, 1, [2]), (1, 0, [3]), (0, 1, [3]), (1, 0, [3]), (10, 6, [38, 231]), (21, 153, [0, 213]), (17, 2, [])], [(1, 0, [3]), (10, 6, [5, 183]), (15, 0, [3]), (20, 0, [])], [(1, 0, [3]), (10, 6, [40, 108]), (0, 1, [20]), (1, 0, [3]), (10, 6, [39, 105]), (0, 1, [2]), (12, 0, []), (4, 0, []), (1, 3, [2]), (13, 1, []), (1, 0, [3]), (10, 6, [43, 118]), (1, 2, [1]), (1, 5, [1]), (13, 0, []), (1, 0, [3]), (10, 6, [43, 118]), (1, 2, [1]), (0, 1, [1]), (4, 0, []), (1, 6, [1]), (13, 0, []), (1, 0, [3]), (10, 6, [43, 118]), (1, 2, [1]), (0, 1, [2]), (4, 0, []), (1, 7, [1]), (13, 0, []), (1, 0, [3]), (10, 6, [43, 118]), (1, 2, [1]), (0, 1, [3]), (4, 0, []), (1, 8, [1]), (13, 0, []), (1, 0, [3]), (10, 6, [43, 118]), (1, 2, [1]), (0, 1, [4]), (4, 0, []), (1, 9, [1]), (13, 0, []), (1, 0, [3]), (10, 6, [43, 118]), (1, 2, [1]), (0, 1, [5]), (4, 0, []), (1, 10, [1]), (13, 0, []), (1, 0, [3]), (10, 6, [39, 105]), (0, 1, [2]), (9, 1, []), (12, 0, []), (0, 1, [1]), (4, 0, []), (13, 0, []), (20, 0, [])]]
abbrev k_m_personTold : Nat := 172
def p_m_lawTold : List Nat := [0, 12, 43, 44, 67, 100]
def b_m_lawTold : List (List mmOp) := [[(1, 0, [3]), (0, 1, [4]), (0, 1, [8]), (1, 1, [1]), (21, 158, [0, 246]), (15, 0, [1]), (20, 0, [])], [(1, 0, [3]), (10, 6, [39, 105]), (0, 1, [4]), (12, 0, []), (2, 3, [1]), (1, 0, [3]), (10, 6, [46, 127]), (1, 3, [1]), (1, 0, [3]), (0, 1, [0]), (21, 165, [0, 257]), (13, 0, []), (1, 0, [3]), (10, 6, [47, 130]), (1, 3, [1]), (1, 2, [1]), (15, 0, [2]), (0, 1, [1]), (17, 3, [1])], [(0, 1, [0]), (17, 3, [])], [(13, 0, []), (1, 0, [3]), (10, 6, [54, 139]), (1, 3, [1]), (1, 0, [3]), (10, 6, [50, 274]), (13, 0, []), (1, 0, [3]), (21, 174, [0, 277]), (1, 2, [1]), (15, 1, [4]), (1, 0, [3]), (21, 175, [0, 280]), (17, 4, [])], [(1, 0, [3]), (10, 6, [55, 142]), (1, 3, [1]), (1, 0, [3]), (10, 6, [50, 274]), (13, 0, []), (1, 0, [3]), (1, 0, [3]), (10, 6, [28, 75]), (21, 164, [0, 253]), (1, 0, [3]), (21, 174, [0, 277]), (1, 0, [3]), (10, 6, [5, 183]), (15, 1, [5]), (1, 0, [3]), (21, 187, [0, 283]), (17, 5, [])], [(1, 0, [3]), (10, 6, [56, 145]), (1, 3, [1]), (1, 0, [3]), (10, 6, [50, 274]), (13, 0, []), (1, 0, [3]), (10, 6, [39, 105]), (0, 1, [4]), (9, 1, []), (12, 0, []), (0, 1, [1]), (4, 0, []), (13, 0, []), (20, 0, [])]]
abbrev k_m_lawTold : Nat := 173
def p_m_clears : List Nat := [0]
def b_m_clears : List (List mmOp) := [[(1, 0, [3]), (0, 1, [0]), (11, 6, [52, 265]), (1, 0, [3]), (0, 1, [0]), (11, 6, [53, 268]), (1, 0, [3]), (0, 1, [0]), (11, 6, [57, 271]), (20, 0, [])]]
abbrev k_m_clears : Nat := 174
def p_m_sumsTold : List Nat := [0, 15, 48, 49, 53, 78]
def b_m_sumsTold : List (List mmOp) := [[(1, 0, [3]), (10, 6, [57, 271]), (2, 1, [1]), (1, 0, [3]), (1, 0, [3]), (10, 6, [52, 265]), (11, 6, [57, 271]), (0, 1, [1]), (2, 2, [1]), (17, 1, [])], [(1, 2, [1]), (15, 0, [4]), (1, 0, [3]), (10, 6, [5, 183]), (15, 1, [4]), (1, 0, [3]), (21, 176, [0, 348]), (1, 0, [3]), (10, 6, [5, 183]), (15, 1, [2]), (1, 0, [3]), (21, 181, [0, 351]), (15, 0, [2]), (0, 1, [1]), (17, 3, [1])], [(0, 1, [0]), (17, 3, [])], [(2, 2, [1]), (17, 1, [1])], [(1, 0, [3]), (10, 6, [5, 183]), (15, 1, [5]), (1, 0, [3]), (10, 6, [52, 265]), (1, 0, [3]), (10, 6, [57, 271]), (16, 5, [5]), (1, 0, [3]), (21, 185, [0, 333]), (17, 4, [1])], [(1, 0, [3]), (1, 1, [1]), (11, 6, [57, 271]), (20, 0, [])]]
abbrev k_m_sumsTold : Nat := 175
def p_m_onePart : List Nat := [0, 2, 47, 69, 90, 106, 107, 125, 127, 132, 141, 143, 146, 154, 170, 186, 202, 218, 234, 235, 246, 258]
def b_m_onePart : List (List mmOp) := [[(0, 1, [1]), (2, 1, [1]), (17, 1, [])], [(1, 1, [1]), (15, 0, [12]), (1, 0, [3]), (10, 6, [5, 183]), (15, 1, [12]), (1, 0, [3]), (21, 151, [0, 195]), (2, 2, [1]), (1, 2, [1]), (0, 1, [40]), (16, 1, [2]), (1, 0, [3]), (0, 1, [20]), (1, 0, [3]), (10, 6, [2, 189]), (21, 177, [0, 336]), (1, 0, [3]), (9, 0, []), (10, 6, [2, 189]), (0, 1, [1]), (4, 0, []), (11, 6, [2, 189]), (17, 11, [1])], [(1, 0, [3]), (1, 0, [3]), (10, 6, [36, 99]), (21, 155, [0, 206]), (15, 1, [3]), (1, 0, [3]), (1, 0, [3]), (10, 6, [37, 102]), (21, 155, [0, 206]), (15, 0, [10]), (17, 3, [])], [(1, 0, [3]), (1, 0, [3]), (10, 6, [36, 99]), (21, 154, [0, 210]), (2, 3, [1]), (1, 3, [1]), (15, 1, [4]), (1, 0, [3]), (1, 0, [3]), (10, 6, [37, 102]), (21, 164, [0, 253]), (17, 4, [])], [(1, 0, [3]), (21, 151, [0, 195]), (0, 1, [40]), (16, 1, [5]), (1, 0, [3]), (10, 6, [2, 189]), (17, 6, [1])], [(0, 1, [-1]), (17, 6, [])], [(2, 4, [1]), (1, 4, [1]), (0, 1, [-1]), (16, 0, [9]), (1, 0, [3]), (1, 3, [1]), (15, 0, [7]), (0, 1, [21]), (17, 8, [1])], [(0, 1, [22]), (17, 8, [])], [(1, 4, [1]), (21, 177, [0, 336]), (17, 9, [])], [(1, 0, [3]), (0, 1, [40]), (21, 178, [0, 312]), (17, 11, [1])], [(0, 1, [0]), (2, 1, [1]), (17, 11, [])], [(17, 1, [1])], [(1, 0, [3]), (10, 6, [5, 183]), (15, 0, [13]), (20, 0, [])], [(1, 0, [3]), (1, 0, [3]), (10, 6, [20, 51]), (21, 154, [0, 210]), (15, 0, [14]), (0, 1, [7]), (17, 19, [1])], [(1, 0, [3]), (1, 0, [3]), (10, 6, [23, 60]), (21, 154, [0, 210]), (15, 0, [15]), (0, 1, [8]), (17, 19, [1])], [(1, 0, [3]), (1, 0, [3]), (10, 6, [12, 27]), (21, 154, [0, 210]), (15, 0, [16]), (0, 1, [9]), (17, 19, [1])], [(1, 0, [3]), (1, 0, [3]), (10, 6, [13, 30]), (21, 154, [0, 210]), (15, 0, [17]), (0, 1, [10]), (17, 19, [1])], [(1, 0, [3]), (1, 0, [3]), (10, 6, [31, 84]), (21, 154, [0, 210]), (15, 0, [18]), (0, 1, [11]), (17, 19, [1])], [(0, 1, [-1]), (17, 19, [])], [(2, 2, [1]), (1, 0, [3]), (1, 2, [1]), (0, 1, [-1]), (16, 0, [20]), (1, 2, [1]), (17, 21, [1])], [(0, 1, [1000]), (1, 0, [3]), (0, 1, [0]), (0, 1, [9999]), (21, 166, [0, 261]), (4, 0, []), (17, 21, [])], [(21, 180, [0, 327]), (20, 0, [])]]
abbrev k_m_onePart : Nat := 176
def p_m_opens : List Nat := [0, 16]
def b_m_opens : List (List mmOp) := [[(1, 0, [3]), (10, 6, [53, 268]), (0, 1, [6]), (16, 1, [1]), (1, 0, [3]), (0, 1, [4]), (1, 2, [1]), (21, 153, [0, 213]), (20, 0, [])], [(1, 0, [3]), (9, 0, []), (10, 6, [53, 268]), (0, 1, [1]), (4, 0, []), (11, 6, [53, 268]), (1, 0, [3]), (10, 6, [51, 136]), (1, 0, [3]), (10, 6, [52, 265]), (1, 1, [1]), (13, 0, []), (1, 0, [3]), (9, 0, []), (10, 6, [52, 265]), (0, 1, [1]), (4, 0, []), (11, 6, [52, 265]), (20, 0, [])]]
abbrev k_m_opens : Nat := 177
def p_m_asksSign : List Nat := [0, 24]
def b_m_asksSign : List (List mmOp) := [[(1, 0, [3]), (10, 6, [5, 183]), (15, 1, [1]), (1, 0, [3]), (1, 1, [1]), (21, 179, [0, 217]), (15, 1, [1]), (1, 0, [3]), (0, 1, [1]), (1, 0, [3]), (10, 6, [2, 189]), (21, 153, [0, 213]), (17, 1, [])], [(20, 0, [])]]
abbrev k_m_asksSign : Nat := 178
def p_m_takesSign : List Nat := [0, 15, 17]
def b_m_takesSign : List (List mmOp) := [[(1, 0, [3]), (10, 6, [5, 183]), (15, 1, [1]), (1, 0, [3]), (21, 151, [0, 195]), (1, 1, [1]), (16, 0, [2]), (17, 1, [])], [(0, 1, [0]), (20, 4, [])], [(1, 0, [3]), (9, 0, []), (10, 6, [2, 189]), (0, 1, [1]), (4, 0, []), (11, 6, [2, 189]), (0, 1, [1]), (20, 4, [])]]
abbrev k_m_takesSign : Nat := 179
def p_m_code : List Nat := [0]
def b_m_code : List (List mmOp) := [[(1, 0, [3]), (10, 6, [49, 133]), (0, 1, [0]), (1, 0, [3]), (10, 6, [50, 274]), (4, 0, []), (1, 1, [1]), (13, 0, []), (1, 0, [3]), (9, 0, []), (10, 6, [50, 274]), (0, 1, [1]), (4, 0, []), (11, 6, [50, 274]), (20, 0, [])]]
abbrev k_m_code : Nat := 180
def p_m_goesOn : List Nat := [0, 43, 110, 112, 118, 136, 156, 157, 158, 174, 181, 203, 221, 241, 242, 243, 275, 282, 304, 322, 337, 358, 382]
def b_m_goesOn : List (List mmOp) := [[(1, 0, [3]), (10, 6, [5, 183]), (15, 1, [4]), (1, 0, [3]), (21, 151, [0, 195]), (0, 1, [41]), (16, 1, [4]), (1, 0, [3]), (21, 182, [0, 339]), (0, 1, [20]), (16, 0, [1]), (1, 0, [3]), (21, 182, [0, 339]), (0, 1, [23]), (16, 0, [1]), (1, 0, [3]), (21, 182, [0, 339]), (0, 1, [24]), (16, 1, [4]), (17, 1, [])], [(1, 0, [3]), (9, 0, []), (10, 6, [2, 189]), (0, 1, [1]), (4, 0, []), (11, 6, [2, 189]), (1, 0, [3]), (21, 184, [0, 342]), (1, 0, [3]), (9, 0, []), (10, 6, [52, 265]), (0, 1, [1]), (4, 1, []), (11, 6, [52, 265]), (1, 0, [3]), (9, 0, []), (10, 6, [53, 268]), (0, 1, [1]), (4, 1, []), (11, 6, [53, 268]), (1, 0, [3]), (10, 6, [51, 136]), (1, 0, [3]), (10, 6, [52, 265]), (12, 0, []), (0, 1, [20]), (16, 0, [0]), (1, 0, [3]), (1, 0, [3]), (10, 6, [51, 136]), (1, 0, [3]), (10, 6, [52, 265]), (12, 0, []), (0, 1, [23]), (16, 1, [2]), (0, 1, [5]), (17, 3, [1])], [(0, 1, [6]), (17, 3, [])], [(21, 180, [0, 327]), (17, 0, [1])], [(1, 0, [3]), (0, 1, [42]), (21, 179, [0, 217]), (15, 1, [5]), (1, 0, [3]), (0, 1, [47]), (21, 179, [0, 217]), (15, 0, [11]), (17, 5, [])], [(1, 0, [3]), (10, 6, [0, 7]), (1, 0, [3]), (10, 6, [2, 189]), (0, 1, [1]), (4, 1, []), (12, 0, []), (0, 1, [42]), (16, 1, [6]), (0, 1, [3]), (17, 7, [1])], [(0, 1, [4]), (17, 7, [])], [(2, 1, [1]), (17, 8, [])], [(1, 0, [3]), (0, 1, [3]), (21, 186, [0, 345]), (15, 1, [9]), (1, 0, [3]), (0, 1, [4]), (21, 186, [0, 345]), (15, 0, [10]), (17, 9, [])], [(1, 0, [3]), (21, 185, [0, 333]), (17, 8, [1])], [(1, 0, [3]), (10, 6, [51, 136]), (1, 0, [3]), (10, 6, [52, 265]), (1, 1, [1]), (13, 0, []), (1, 0, [3]), (9, 0, []), (10, 6, [52, 265]), (0, 1, [1]), (4, 0, []), (11, 6, [52, 265]), (0, 1, [1]), (20, 4, [])], [(1, 0, [3]), (0, 1, [43]), (21, 179, [0, 217]), (15, 1, [12]), (1, 0, [3]), (0, 1, [45]), (21, 179, [0, 217]), (15, 0, [18]), (17, 12, [])], [(1, 0, [3]), (10, 6, [0, 7]), (1, 0, [3]), (10, 6, [2, 189]), (0, 1, [1]), (4, 1, []), (12, 0, []), (0, 1, [43]), (16, 1, [13]), (0, 1, [1]), (17, 14, [1])], [(0, 1, [2]), (17, 14, [])], [(2, 1, [1]), (17, 15, [])], [(1, 0, [3]), (0, 1, [3]), (21, 186, [0, 345]), (15, 1, [16]), (1, 0, [3]), (0, 1, [4]), (21, 186, [0, 345]), (15, 1, [16]), (1, 0, [3]), (0, 1, [1]), (21, 186, [0, 345]), (15, 1, [16]), (1, 0, [3]), (0, 1, [2]), (21, 186, [0, 345]), (15, 0, [17]), (17, 16, [])], [(1, 0, [3]), (21, 185, [0, 333]), (17, 15, [1])], [(1, 0, [3]), (10, 6, [51, 136]), (1, 0, [3]), (10, 6, [52, 265]), (1, 1, [1]), (13, 0, []), (1, 0, [3]), (9, 0, []), (10, 6, [52, 265]), (0, 1, [1]), (4, 0, []), (11, 6, [52, 265]), (0, 1, [1]), (20, 4, [])], [(1, 0, [3]), (21, 182, [0, 339]), (0, 1, [21]), (16, 0, [19]), (1, 0, [3]), (21, 182, [0, 339]), (0, 1, [22]), (16, 1, [21]), (17, 19, [])], [(1, 0, [3]), (0, 1, [44]), (21, 178, [0, 312]), (1, 0, [3]), (10, 6, [5, 183]), (15, 0, [20]), (0, 1, [0]), (20, 4, [])], [(1, 0, [3]), (21, 184, [0, 342]), (1, 0, [3]), (10, 6, [51, 136]), (1, 0, [3]), (10, 6, [52, 265]), (0, 1, [1]), (4, 1, []), (9, 1, []), (12, 0, []), (0, 1, [2]), (4, 0, []), (13, 0, []), (0, 1, [1]), (20, 4, [])], [(1, 0, [3]), (21, 182, [0, 339]), (0, 1, [-1]), (16, 0, [22]), (1, 0, [3]), (10, 6, [5, 183]), (15, 1, [22]), (1, 0, [3]), (0, 1, [1]), (1, 0, [3]), (10, 6, [2, 189]), (21, 153, [0, 213]), (17, 22, [])], [(0, 1, [0]), (20, 4, [])]]
abbrev k_m_goesOn : Nat := 181
def p_m_mark : List Nat := [0, 7, 34, 51, 52]
def b_m_mark : List (List mmOp) := [[(1, 0, [3]), (10, 6, [52, 265]), (0, 1, [1]), (4, 1, []), (2, 1, [1]), (17, 1, [])], [(1, 1, [1]), (1, 0, [3]), (10, 6, [57, 271]), (16, 2, [2]), (1, 0, [3]), (1, 0, [3]), (10, 6, [51, 136]), (1, 1, [1]), (12, 0, []), (21, 183, [0, 330]), (15, 1, [2]), (3, 1, [-1]), (17, 1, [1])], [(1, 1, [1]), (1, 0, [3]), (10, 6, [57, 271]), (16, 2, [3]), (1, 0, [3]), (10, 6, [51, 136]), (1, 1, [1]), (12, 0, []), (17, 4, [1])], [(0, 1, [-1]), (17, 4, [])], [(20, 1, [])]]
abbrev k_m_mark : Nat := 182
def p_m_isMark : List Nat := [0, 16, 17]
def b_m_isMark : List (List mmOp) := [[(1, 1, [1]), (0, 1, [20]), (16, 2, [1]), (1, 1, [1]), (0, 1, [24]), (16, 4, [1]), (0, 1, [1]), (17, 2, [1])], [(0, 1, [0]), (17, 2, [])], [(20, 4, [])]]
abbrev k_m_isMark : Nat := 183
def p_m_dropsToMark : List Nat := [0, 36]
def b_m_dropsToMark : List (List mmOp) := [[(1, 0, [3]), (10, 6, [52, 265]), (1, 0, [3]), (10, 6, [57, 271]), (16, 5, [1]), (1, 0, [3]), (1, 0, [3]), (10, 6, [51, 136]), (1, 0, [3]), (10, 6, [52, 265]), (0, 1, [1]), (4, 1, []), (12, 0, []), (21, 183, [0, 330]), (15, 1, [1]), (1, 0, [3]), (21, 185, [0, 333]), (17, 0, [1])], [(20, 0, [])]]
abbrev k_m_dropsToMark : Nat := 184
def p_m_drops : List Nat := [0]
def b_m_drops : List (List mmOp) := [[(1, 0, [3]), (9, 0, []), (10, 6, [52, 265]), (0, 1, [1]), (4, 1, []), (11, 6, [52, 265]), (1, 0, [3]), (1, 0, [3]), (10, 6, [51, 136]), (1, 0, [3]), (10, 6, [52, 265]), (12, 0, []), (21, 180, [0, 327]), (20, 0, [])]]
abbrev k_m_drops : Nat := 185
def p_m_isOn : List Nat := [0, 26, 27]
def b_m_isOn : List (List mmOp) := [[(1, 0, [3]), (10, 6, [52, 265]), (15, 5, [1]), (1, 0, [3]), (10, 6, [51, 136]), (1, 0, [3]), (10, 6, [52, 265]), (0, 1, [1]), (4, 1, []), (12, 0, []), (1, 1, [1]), (16, 1, [1]), (0, 1, [1]), (17, 2, [1])], [(0, 1, [0]), (17, 2, [])], [(20, 4, [])]]
abbrev k_m_isOn : Nat := 186
def p_m_test : List Nat := [0, 2, 47, 79, 105, 106, 110, 131]
def b_m_test : List (List mmOp) := [[(0, 1, [1]), (2, 1, [1]), (17, 1, [])], [(1, 1, [1]), (15, 0, [6]), (1, 0, [3]), (10, 6, [5, 183]), (15, 1, [6]), (1, 0, [3]), (21, 151, [0, 195]), (2, 2, [1]), (1, 2, [1]), (0, 1, [91]), (16, 1, [2]), (1, 0, [3]), (0, 1, [25]), (1, 0, [3]), (10, 6, [2, 189]), (21, 177, [0, 336]), (1, 0, [3]), (9, 0, []), (10, 6, [2, 189]), (0, 1, [1]), (4, 0, []), (11, 6, [2, 189]), (17, 1, [1])], [(1, 0, [3]), (1, 0, [3]), (10, 6, [34, 93]), (21, 155, [0, 206]), (15, 0, [3]), (1, 0, [3]), (0, 1, [17]), (1, 0, [3]), (10, 6, [2, 189]), (21, 177, [0, 336]), (1, 0, [3]), (1, 0, [3]), (10, 6, [34, 93]), (21, 164, [0, 253]), (17, 1, [1])], [(1, 0, [3]), (21, 188, [0, 354]), (1, 0, [3]), (21, 189, [0, 357]), (1, 0, [3]), (10, 6, [5, 183]), (15, 1, [4]), (1, 0, [3]), (21, 190, [0, 360]), (15, 0, [4]), (0, 1, [1]), (17, 5, [1])], [(0, 1, [0]), (17, 5, [])], [(2, 1, [1]), (17, 1, [1])], [(1, 0, [3]), (10, 6, [5, 183]), (15, 1, [7]), (1, 0, [3]), (10, 6, [52, 265]), (15, 5, [7]), (1, 0, [3]), (21, 185, [0, 333]), (17, 6, [1])], [(20, 0, [])]]
abbrev k_m_test : Nat := 187
def p_m_fact : List Nat := [0, 18, 30, 63, 89, 100, 102]
def b_m_fact : List (List mmOp) := [[(1, 0, [3]), (1, 0, [3]), (10, 6, [35, 96]), (21, 154, [0, 210]), (15, 0, [1]), (1, 0, [3]), (0, 1, [18]), (21, 180, [0, 327]), (20, 0, [])], [(1, 0, [3]), (21, 175, [0, 280]), (1, 0, [3]), (10, 6, [5, 183]), (15, 0, [2]), (20, 0, [])], [(1, 0, [3]), (21, 151, [0, 195]), (2, 1, [1]), (1, 1, [1]), (0, 1, [60]), (16, 0, [3]), (1, 1, [1]), (0, 1, [62]), (16, 0, [3]), (1, 1, [1]), (0, 1, [61]), (16, 0, [3]), (1, 0, [3]), (0, 1, [1]), (1, 0, [3]), (10, 6, [2, 189]), (21, 153, [0, 213]), (20, 0, [])], [(1, 0, [3]), (9, 0, []), (10, 6, [2, 189]), (0, 1, [1]), (4, 0, []), (11, 6, [2, 189]), (1, 0, [3]), (21, 175, [0, 280]), (1, 0, [3]), (1, 1, [1]), (0, 1, [60]), (16, 1, [4]), (0, 1, [12]), (17, 6, [1])], [(1, 1, [1]), (0, 1, [62]), (16, 1, [5]), (0, 1, [13]), (17, 6, [1])], [(0, 1, [14]), (17, 6, [])], [(21, 180, [0, 327]), (20, 0, [])]]
abbrev k_m_fact : Nat := 188
def p_m_dropsNots : List Nat := [0, 33]
def b_m_dropsNots : List (List mmOp) := [[(1, 0, [3]), (10, 6, [5, 183]), (15, 1, [1]), (1, 0, [3]), (0, 1, [17]), (21, 186, [0, 345]), (15, 0, [1]), (1, 0, [3]), (9, 0, []), (10, 6, [53, 268]), (0, 1, [1]), (4, 1, []), (11, 6, [53, 268]), (1, 0, [3]), (21, 185, [0, 333]), (17, 0, [1])], [(20, 0, [])]]
abbrev k_m_dropsNots : Nat := 189
def p_m_goesOnTest : List Nat := [0, 33, 49, 76, 87, 103, 126, 137, 155, 162, 185, 208]
def b_m_goesOnTest : List (List mmOp) := [[(1, 0, [3]), (10, 6, [5, 183]), (15, 1, [3]), (1, 0, [3]), (21, 151, [0, 195]), (0, 1, [93]), (16, 1, [3]), (1, 0, [3]), (21, 191, [0, 363]), (15, 0, [3]), (1, 0, [3]), (9, 0, []), (10, 6, [2, 189]), (0, 1, [1]), (4, 0, []), (11, 6, [2, 189]), (17, 1, [])], [(1, 0, [3]), (0, 1, [25]), (21, 186, [0, 345]), (15, 1, [2]), (1, 0, [3]), (21, 185, [0, 333]), (17, 1, [1])], [(1, 0, [3]), (9, 0, []), (10, 6, [52, 265]), (0, 1, [1]), (4, 1, []), (11, 6, [52, 265]), (1, 0, [3]), (9, 0, []), (10, 6, [53, 268]), (0, 1, [1]), (4, 1, []), (11, 6, [53, 268]), (1, 0, [3]), (21, 189, [0, 357]), (17, 0, [1])], [(1, 0, [3]), (1, 0, [3]), (10, 6, [33, 90]), (21, 154, [0, 210]), (15, 0, [6]), (17, 4, [])], [(1, 0, [3]), (0, 1, [15]), (21, 186, [0, 345]), (15, 0, [5]), (1, 0, [3]), (21, 185, [0, 333]), (17, 4, [1])], [(1, 0, [3]), (10, 6, [51, 136]), (1, 0, [3]), (10, 6, [52, 265]), (0, 1, [15]), (13, 0, []), (1, 0, [3]), (9, 0, []), (10, 6, [52, 265]), (0, 1, [1]), (4, 0, []), (11, 6, [52, 265]), (0, 1, [1]), (20, 4, [])], [(1, 0, [3]), (1, 0, [3]), (10, 6, [32, 87]), (21, 154, [0, 210]), (15, 0, [10]), (17, 7, [])], [(1, 0, [3]), (0, 1, [15]), (21, 186, [0, 345]), (15, 1, [8]), (1, 0, [3]), (0, 1, [16]), (21, 186, [0, 345]), (15, 0, [9]), (17, 8, [])], [(1, 0, [3]), (21, 185, [0, 333]), (17, 7, [1])], [(1, 0, [3]), (10, 6, [51, 136]), (1, 0, [3]), (10, 6, [52, 265]), (0, 1, [16]), (13, 0, []), (1, 0, [3]), (9, 0, []), (10, 6, [52, 265]), (0, 1, [1]), (4, 0, []), (11, 6, [52, 265]), (0, 1, [1]), (20, 4, [])], [(1, 0, [3]), (10, 6, [5, 183]), (15, 1, [11]), (1, 0, [3]), (21, 191, [0, 363]), (15, 0, [11]), (1, 0, [3]), (0, 1, [1]), (1, 0, [3]), (10, 6, [2, 189]), (21, 153, [0, 213]), (17, 11, [])], [(0, 1, [0]), (20, 4, [])]]
abbrev k_m_goesOnTest : Nat := 190
def p_m_hasSquare : List Nat := [0, 2, 23, 29]
def b_m_hasSquare : List (List mmOp) := [[(0, 1, [0]), (2, 1, [1]), (17, 1, [])], [(1, 1, [1]), (1, 0, [3]), (10, 6, [52, 265]), (16, 3, [3]), (1, 0, [3]), (10, 6, [51, 136]), (1, 1, [1]), (12, 0, []), (0, 1, [25]), (16, 1, [2]), (0, 1, [1]), (20, 4, [])], [(3, 1, [1]), (17, 1, [1])], [(0, 1, [0]), (20, 4, [])]]
abbrev k_m_hasSquare : Nat := 191
def p_m_stands : List Nat := [0, 2, 27, 29, 56, 58, 85, 87, 114, 116, 143, 169, 256, 258, 288, 290, 310, 312, 346, 348, 410]
def b_m_stands : List (List mmOp) := [[(0, 1, [0]), (2, 1, [1]), (17, 1, [])], [(1, 1, [1]), (0, 1, [5]), (16, 3, [2]), (1, 0, [3]), (10, 6, [39, 105]), (0, 1, [5]), (1, 1, [1]), (4, 0, []), (1, 0, [3]), (10, 6, [39, 105]), (1, 1, [1]), (12, 0, []), (13, 0, []), (3, 1, [1]), (17, 1, [1])], [(0, 1, [0]), (2, 1, [1]), (17, 3, [])], [(1, 1, [1]), (0, 1, [30]), (16, 3, [4]), (1, 0, [3]), (10, 6, [40, 108]), (0, 1, [30]), (1, 1, [1]), (4, 0, []), (1, 0, [3]), (10, 6, [40, 108]), (1, 1, [1]), (12, 1, []), (13, 1, []), (3, 1, [1]), (17, 3, [1])], [(0, 1, [0]), (2, 1, [1]), (17, 5, [])], [(1, 1, [1]), (0, 1, [50]), (16, 3, [6]), (1, 0, [3]), (10, 6, [41, 112]), (0, 1, [50]), (1, 1, [1]), (4, 0, []), (1, 0, [3]), (10, 6, [41, 112]), (1, 1, [1]), (12, 0, []), (13, 0, []), (3, 1, [1]), (17, 5, [1])], [(0, 1, [0]), (2, 1, [1]), (17, 7, [])], [(1, 1, [1]), (0, 1, [100]), (16, 3, [8]), (1, 0, [3]), (10, 6, [42, 115]), (0, 1, [100]), (1, 1, [1]), (4, 0, []), (1, 0, [3]), (10, 6, [42, 115]), (1, 1, [1]), (12, 0, []), (13, 0, []), (3, 1, [1]), (17, 7, [1])], [(0, 1, [0]), (2, 1, [1]), (17, 9, [])], [(1, 1, [1]), (0, 1, [36]), (16, 3, [10]), (1, 0, [3]), (10, 6, [43, 118]), (0, 1, [36]), (1, 1, [1]), (4, 0, []), (1, 0, [3]), (10, 6, [43, 118]), (1, 1, [1]), (12, 0, []), (13, 0, []), (3, 1, [1]), (17, 9, [1])], [(1, 0, [3]), (10, 6, [44, 121]), (0, 1, [1]), (1, 0, [3]), (10, 6, [44, 121]), (0, 1, [0]), (12, 0, []), (13, 0, []), (1, 0, [3]), (10, 6, [45, 124]), (0, 1, [1]), (1, 0, [3]), (10, 6, [45, 124]), (0, 1, [0]), (12, 0, []), (13, 0, []), (0, 1, [0]), (2, 1, [1]), (17, 11, [])], [(1, 1, [1]), (0, 1, [8]), (16, 3, [12]), (1, 0, [3]), (10, 6, [46, 127]), (0, 1, [8]), (1, 1, [1]), (4, 0, []), (1, 0, [3]), (10, 6, [46, 127]), (1, 1, [1]), (12, 0, []), (13, 0, []), (1, 0, [3]), (10, 6, [47, 130]), (0, 1, [8]), (1, 1, [1]), (4, 0, []), (1, 0, [3]), (10, 6, [47, 130]), (1, 1, [1]), (12, 0, []), (13, 0, []), (1, 0, [3]), (10, 6, [54, 139]), (0, 1, [8]), (1, 1, [1]), (4, 0, []), (1, 0, [3]), (10, 6, [54, 139]), (1, 1, [1]), (12, 0, []), (13, 0, []), (1, 0, [3]), (10, 6, [55, 142]), (0, 1, [8]), (1, 1, [1]), (4, 0, []), (1, 0, [3]), (10, 6, [55, 142]), (1, 1, [1]), (12, 0, []), (13, 0, []), (1, 0, [3]), (10, 6, [56, 145]), (0, 1, [8]), (1, 1, [1]), (4, 0, []), (1, 0, [3]), (10, 6, [56, 145]), (1, 1, [1]), (12, 0, []), (13, 0, []), (3, 1, [1]), (17, 11, [1])], [(0, 1, [0]), (2, 1, [1]), (17, 13, [])], [(1, 1, [1]), (1, 0, [3]), (10, 6, [50, 274]), (16, 3, [14]), (1, 0, [3]), (10, 6, [49, 133]), (0, 1, [1600]), (1, 1, [1]), (4, 0, []), (1, 0, [3]), (10, 6, [49, 133]), (1, 1, [1]), (12, 0, []), (13, 0, []), (3, 1, [1]), (17, 13, [1])], [(0, 1, [0]), (2, 1, [1]), (17, 15, [])], [(1, 1, [1]), (0, 1, [210]), (16, 3, [16]), (1, 0, [3]), (10, 6, [61, 154]), (1, 1, [1]), (0, 1, [0]), (13, 0, []), (3, 1, [1]), (17, 15, [1])], [(0, 1, [0]), (2, 1, [1]), (17, 17, [])], [(1, 1, [1]), (1, 0, [3]), (10, 6, [39, 105]), (0, 1, [1]), (12, 0, []), (16, 3, [18]), (1, 0, [3]), (10, 6, [61, 154]), (0, 1, [2]), (1, 1, [1]), (4, 0, []), (1, 0, [3]), (10, 6, [41, 112]), (0, 1, [5]), (1, 1, [1]), (4, 2, []), (0, 1, [2]), (4, 0, []), (12, 0, []), (13, 0, []), (3, 1, [1]), (17, 17, [1])], [(0, 1, [0]), (2, 1, [1]), (17, 19, [])], [(1, 1, [1]), (1, 0, [3]), (10, 6, [39, 105]), (0, 1, [2]), (12, 0, []), (16, 3, [20]), (1, 0, [3]), (10, 6, [61, 154]), (0, 1, [12]), (0, 1, [2]), (1, 1, [1]), (4, 2, []), (4, 0, []), (1, 0, [3]), (10, 6, [43, 118]), (0, 1, [6]), (1, 1, [1]), (4, 2, []), (0, 1, [4]), (4, 0, []), (12, 0, []), (13, 0, []), (1, 0, [3]), (10, 6, [61, 154]), (0, 1, [12]), (0, 1, [2]), (1, 1, [1]), (4, 2, []), (4, 0, []), (0, 1, [1]), (4, 0, []), (1, 0, [3]), (10, 6, [43, 118]), (0, 1, [6]), (1, 1, [1]), (4, 2, []), (0, 1, [5]), (4, 0, []), (12, 0, []), (13, 0, []), (3, 1, [1]), (17, 19, [1])], [(1, 0, [3]), (0, 1, [0]), (11, 6, [67, 324]), (20, 0, [])]]
abbrev k_m_stands : Nat := 192
def p_m_fault : List Nat := [0, 11, 23, 24]
def b_m_fault : List (List mmOp) := [[(1, 1, [1]), (15, 1, [1]), (1, 0, [3]), (10, 6, [7, 318]), (17, 3, [1])], [(1, 1, [1]), (0, 1, [1]), (16, 1, [2]), (1, 0, [3]), (10, 6, [8, 13]), (17, 3, [1])], [(0, 1, [-1]), (17, 3, [])], [(20, 1, [])]]
abbrev k_m_fault : Nat := 193
def p_m_has : List Nat := [0, 68, 73, 78, 86, 91, 99, 112, 118, 119, 126, 133, 140, 145, 153, 161, 166]
def b_m_has : List (List mmOp) := [[(1, 1, [1]), (18, 0, [16, 1, 2, 3, 4, 5, 6, 9, 10, 11, 12, 13, 14, 15])], [(1, 0, [3]), (21, 195, [0, 437]), (20, 1, [])], [(1, 0, [3]), (21, 196, [0, 392]), (20, 1, [])], [(1, 0, [3]), (10, 6, [39, 105]), (0, 1, [8]), (12, 0, []), (20, 1, [])], [(1, 0, [3]), (21, 197, [0, 395]), (20, 1, [])], [(1, 0, [3]), (10, 6, [39, 105]), (0, 1, [9]), (12, 0, []), (20, 1, [])], [(1, 0, [3]), (10, 6, [44, 121]), (0, 1, [1]), (12, 0, []), (15, 1, [7]), (0, 1, [5]), (17, 8, [1])], [(1, 0, [3]), (10, 6, [44, 121]), (0, 1, [1]), (12, 0, []), (17, 8, [])], [(20, 1, [])], [(1, 0, [3]), (10, 6, [45, 124]), (0, 1, [1]), (12, 0, []), (20, 1, [])], [(1, 0, [3]), (10, 6, [61, 154]), (0, 1, [0]), (12, 0, []), (20, 1, [])], [(1, 0, [3]), (10, 6, [61, 154]), (0, 1, [1]), (12, 0, []), (20, 1, [])], [(1, 0, [3]), (21, 198, [0, 440]), (20, 1, [])], [(1, 0, [3]), (21, 200, [0, 443]), (21, 201, [1, 446]), (20, 1, [])], [(1, 0, [3]), (10, 6, [61, 154]), (0, 1, [29]), (12, 0, []), (20, 1, [])], [(1, 0, [3]), (10, 6, [67, 324]), (20, 1, [])], [(0, 1, [-1]), (20, 1, [])]]
abbrev k_m_has : Nat := 194
def p_m_ownerMany : List Nat := [0]
def b_m_ownerMany : List (List mmOp) := [[(1, 0, [3]), (10, 6, [39, 105]), (0, 1, [5]), (12, 0, []), (20, 1, [])]]
abbrev k_m_ownerMany : Nat := 195
def p_m_lotMany : List Nat := [0]
def b_m_lotMany : List (List mmOp) := [[(1, 0, [3]), (10, 6, [39, 105]), (0, 1, [6]), (12, 0, []), (20, 1, [])]]
abbrev k_m_lotMany : Nat := 196
def p_m_personMany : List Nat := [0]
def b_m_personMany : List (List mmOp) := [[(1, 0, [3]), (10, 6, [39, 105]), (0, 1, [7]), (12, 0, []), (20, 1, [])]]
abbrev k_m_personMany : Nat := 197
def p_m_tilesAll : List Nat := [0, 4, 26]
def b_m_tilesAll : List (List mmOp) := [[(0, 1, [0]), (2, 1, [1]), (0, 1, [0]), (2, 2, [1]), (17, 1, [])], [(1, 2, [1]), (1, 0, [3]), (21, 196, [0, 392]), (16, 3, [2]), (1, 1, [1]), (1, 0, [3]), (1, 2, [1]), (21, 199, [0, 413]), (4, 0, []), (2, 1, [1]), (3, 2, [1]), (17, 1, [1])], [(1, 1, [1]), (20, 1, [])]]
abbrev k_m_tilesAll : Nat := 198
def p_m_tilesOf : List Nat := [0]
def b_m_tilesOf : List (List mmOp) := [[(1, 0, [3]), (10, 6, [61, 154]), (0, 1, [2]), (1, 1, [1]), (4, 0, []), (12, 0, []), (20, 1, [])]]
abbrev k_m_tilesOf : Nat := 199
def p_m_holes : List Nat := [0, 4, 26, 32]
def b_m_holes : List (List mmOp) := [[(0, 1, [0]), (2, 1, [1]), (0, 1, [0]), (2, 2, [1]), (17, 1, [])], [(1, 2, [1]), (1, 0, [3]), (21, 196, [0, 392]), (16, 3, [3]), (1, 0, [3]), (1, 2, [1]), (21, 199, [0, 413]), (15, 1, [2]), (1, 1, [1]), (0, 1, [1]), (1, 2, [1]), (4, 6, []), (4, 4, []), (2, 1, [1]), (17, 2, [])], [(3, 2, [1]), (17, 1, [1])], [(1, 1, [1]), (20, 1, [])]]
abbrev k_m_holes : Nat := 200
def p_m_bits : List Nat := [0, 4, 20]
def b_m_bits : List (List mmOp) := [[(0, 1, [0]), (2, 1, [1]), (1, 0, [1]), (2, 2, [1]), (17, 1, [])], [(1, 2, [1]), (15, 0, [2]), (3, 1, [1]), (1, 2, [1]), (1, 2, [1]), (0, 1, [1]), (4, 1, []), (4, 3, []), (2, 2, [1]), (17, 1, [1])], [(1, 1, [1]), (20, 1, [])]]
abbrev k_m_bits : Nat := 201
def p_m_letter : List Nat := [0, 44, 46, 69, 90, 98, 104, 124]
def b_m_letter : List (List mmOp) := [[(1, 1, [1]), (7, 0, []), (0, 2, [0]), (0, 2, [2, 449]), (21, 168, [1, 223]), (15, 0, [1]), (1, 2, [1]), (7, 0, []), (0, 2, [0]), (1, 0, [3]), (10, 6, [39, 105]), (0, 1, [5]), (1, 1, [1]), (4, 0, []), (12, 0, []), (0, 1, [1]), (4, 1, []), (7, 0, []), (21, 168, [1, 223]), (15, 0, [1]), (1, 3, [1]), (7, 0, []), (0, 2, [0]), (0, 2, [5, 451]), (21, 168, [1, 223]), (15, 1, [2]), (17, 1, [])], [(0, 1, [-1]), (20, 1, [])], [(1, 0, [3]), (10, 6, [40, 108]), (0, 1, [30]), (0, 1, [10]), (1, 1, [1]), (4, 2, []), (4, 0, []), (1, 2, [1]), (4, 0, []), (12, 1, []), (2, 4, [2]), (0, 1, [0]), (2, 6, [1]), (1, 4, [2]), (2, 7, [2]), (17, 3, [])], [(1, 7, [2]), (0, 2, [0]), (8, 0, []), (15, 5, [4]), (3, 6, [1]), (1, 7, [2]), (0, 2, [27, 234]), (6, 2, []), (2, 7, [2]), (17, 3, [1])], [(1, 3, [1]), (1, 6, [1]), (16, 2, [5]), (0, 1, [0]), (20, 1, [])], [(1, 6, [1]), (0, 1, [1]), (4, 1, []), (2, 7, [1]), (17, 6, [])], [(1, 7, [1]), (1, 3, [1]), (16, 5, [7]), (1, 4, [2]), (0, 2, [27, 234]), (6, 2, []), (2, 4, [2]), (3, 7, [-1]), (17, 6, [1])], [(1, 4, [2]), (0, 2, [27, 234]), (6, 3, []), (7, 1, []), (20, 1, [])]]
abbrev k_m_letter : Nat := 202
def p_m_lot : List Nat := [0, 10, 52, 58, 64, 70, 76, 88, 89, 90, 96, 121, 122, 123]
def b_m_lot : List (List mmOp) := [[(1, 0, [3]), (1, 1, [1]), (21, 204, [0, 453]), (15, 1, [1]), (0, 1, [-1]), (20, 1, [])], [(1, 2, [1]), (18, 0, [13, 2, 3, 4, 5, 6, 9, 10])], [(1, 0, [3]), (1, 1, [1]), (21, 205, [0, 404]), (20, 1, [])], [(1, 0, [3]), (1, 1, [1]), (21, 206, [0, 401]), (20, 1, [])], [(1, 0, [3]), (1, 1, [1]), (21, 199, [0, 413]), (20, 1, [])], [(1, 0, [3]), (1, 1, [1]), (21, 207, [0, 456]), (20, 1, [])], [(1, 0, [3]), (1, 1, [1]), (21, 208, [0, 459]), (15, 0, [7]), (0, 1, [1]), (17, 8, [1])], [(0, 1, [0]), (17, 8, [])], [(20, 1, [])], [(1, 0, [3]), (1, 1, [1]), (21, 209, [0, 462]), (20, 1, [])], [(1, 0, [3]), (1, 1, [1]), (21, 207, [0, 456]), (15, 5, [11]), (1, 0, [3]), (1, 1, [1]), (21, 209, [0, 462]), (1, 0, [3]), (1, 1, [1]), (21, 207, [0, 456]), (16, 2, [11]), (0, 1, [1]), (17, 12, [1])], [(0, 1, [0]), (17, 12, [])], [(20, 1, [])], [(0, 1, [-1]), (20, 1, [])]]
abbrev k_m_lot : Nat := 203
def p_m_isLot : List Nat := [0]
def b_m_isLot : List (List mmOp) := [[(1, 1, [1]), (7, 0, []), (0, 2, [0]), (1, 0, [3]), (21, 196, [0, 392]), (0, 1, [1]), (4, 1, []), (7, 0, []), (21, 168, [1, 223]), (20, 4, [])]]
abbrev k_m_isLot : Nat := 204
def p_m_ownerOf : List Nat := [0]
def b_m_ownerOf : List (List mmOp) := [[(1, 0, [3]), (10, 6, [41, 112]), (0, 1, [50]), (0, 1, [5]), (1, 1, [1]), (4, 2, []), (4, 0, []), (12, 0, []), (20, 1, [])]]
abbrev k_m_ownerOf : Nat := 205
def p_m_heightOf : List Nat := [0]
def b_m_heightOf : List (List mmOp) := [[(1, 0, [3]), (10, 6, [41, 112]), (0, 1, [50]), (0, 1, [5]), (1, 1, [1]), (4, 2, []), (4, 0, []), (0, 1, [1]), (4, 0, []), (12, 0, []), (20, 1, [])]]
abbrev k_m_heightOf : Nat := 206
def p_m_bedsOf : List Nat := [0]
def b_m_bedsOf : List (List mmOp) := [[(1, 0, [3]), (10, 6, [41, 112]), (0, 1, [50]), (0, 1, [5]), (1, 1, [1]), (4, 2, []), (4, 0, []), (0, 1, [3]), (4, 0, []), (12, 0, []), (20, 1, [])]]
abbrev k_m_bedsOf : Nat := 207
def p_m_hasStork : List Nat := [0, 21, 22]
def b_m_hasStork : List (List mmOp) := [[(1, 0, [3]), (10, 6, [41, 112]), (0, 1, [50]), (0, 1, [5]), (1, 1, [1]), (4, 2, []), (4, 0, []), (0, 1, [4]), (4, 0, []), (12, 0, []), (0, 1, [1]), (16, 1, [1]), (0, 1, [1]), (17, 2, [1])], [(0, 1, [0]), (17, 2, [])], [(20, 4, [])]]
abbrev k_m_hasStork : Nat := 208
def p_m_thereAt : List Nat := [0, 4, 24, 30]
def b_m_thereAt : List (List mmOp) := [[(0, 1, [0]), (2, 2, [1]), (0, 1, [0]), (2, 3, [1]), (17, 1, [])], [(1, 3, [1]), (1, 0, [3]), (21, 197, [0, 395]), (16, 3, [3]), (1, 0, [3]), (1, 3, [1]), (21, 210, [0, 427]), (1, 1, [1]), (16, 1, [2]), (3, 2, [1]), (17, 2, [])], [(3, 3, [1]), (17, 1, [1])], [(1, 2, [1]), (20, 1, [])]]
abbrev k_m_thereAt : Nat := 209
def p_m_placeOf : List Nat := [0]
def b_m_placeOf : List (List mmOp) := [[(1, 0, [3]), (10, 6, [61, 154]), (0, 1, [12]), (0, 1, [2]), (1, 1, [1]), (4, 2, []), (4, 0, []), (12, 0, []), (20, 1, [])]]
abbrev k_m_placeOf : Nat := 210
def p_m_gap : List Nat := [0, 35, 36]
def b_m_gap : List (List mmOp) := [[(1, 0, [3]), (1, 1, [1]), (21, 204, [0, 453]), (15, 0, [1]), (1, 0, [3]), (1, 2, [1]), (21, 204, [0, 453]), (15, 0, [1]), (1, 0, [3]), (10, 6, [42, 115]), (0, 1, [100]), (0, 1, [10]), (1, 1, [1]), (4, 2, []), (4, 0, []), (1, 2, [1]), (4, 0, []), (12, 0, []), (0, 1, [1]), (4, 1, []), (17, 2, [1])], [(0, 1, [-1]), (17, 2, [])], [(20, 1, [])]]
abbrev k_m_gap : Nat := 211
def p_m_person : List Nat := [0, 10, 52, 59, 65, 71, 77]
def b_m_person : List (List mmOp) := [[(1, 0, [3]), (1, 1, [1]), (21, 213, [0, 465]), (15, 1, [1]), (0, 1, [-1]), (20, 1, [])], [(1, 2, [1]), (18, 0, [6, 2, 2, 2, 2, 3, 4, 5])], [(1, 0, [3]), (1, 1, [1]), (1, 2, [1]), (21, 214, [0, 398]), (20, 1, [])], [(1, 0, [3]), (1, 1, [1]), (21, 210, [0, 427]), (20, 1, [])], [(1, 0, [3]), (1, 1, [1]), (21, 215, [0, 421]), (20, 1, [])], [(1, 0, [3]), (1, 1, [1]), (21, 216, [0, 468]), (20, 1, [])], [(0, 1, [-1]), (20, 1, [])]]
abbrev k_m_person : Nat := 212
def p_m_isPerson : List Nat := [0]
def b_m_isPerson : List (List mmOp) := [[(1, 1, [1]), (7, 0, []), (0, 2, [0]), (1, 0, [3]), (21, 197, [0, 395]), (0, 1, [1]), (4, 1, []), (7, 0, []), (21, 168, [1, 223]), (20, 4, [])]]
abbrev k_m_isPerson : Nat := 213
def p_m_personOf : List Nat := [0]
def b_m_personOf : List (List mmOp) := [[(1, 0, [3]), (10, 6, [43, 118]), (0, 1, [36]), (0, 1, [6]), (1, 1, [1]), (4, 2, []), (4, 0, []), (1, 2, [1]), (4, 0, []), (12, 0, []), (20, 1, [])]]
abbrev k_m_personOf : Nat := 214
def p_m_goalOf : List Nat := [0]
def b_m_goalOf : List (List mmOp) := [[(1, 0, [3]), (10, 6, [61, 154]), (0, 1, [12]), (0, 1, [2]), (1, 1, [1]), (4, 2, []), (4, 0, []), (0, 1, [1]), (4, 0, []), (12, 0, []), (20, 1, [])]]
abbrev k_m_goalOf : Nat := 215
def p_m_ledTo : List Nat := [0, 4, 35, 41]
def b_m_ledTo : List (List mmOp) := [[(0, 1, [0]), (2, 2, [1]), (0, 1, [0]), (2, 3, [1]), (17, 1, [])], [(1, 3, [1]), (1, 0, [3]), (10, 6, [61, 154]), (0, 1, [29]), (12, 0, []), (16, 3, [3]), (1, 0, [3]), (10, 6, [61, 154]), (0, 1, [30]), (0, 1, [3]), (1, 3, [1]), (4, 2, []), (4, 0, []), (0, 1, [2]), (4, 0, []), (12, 0, []), (1, 1, [1]), (16, 1, [2]), (3, 2, [1]), (17, 2, [])], [(3, 3, [1]), (17, 1, [1])], [(1, 2, [1]), (20, 1, [])]]
abbrev k_m_ledTo : Nat := 216
def p_m_purse : List Nat := [0, 28, 31]
def b_m_purse : List (List mmOp) := [[(1, 1, [1]), (7, 0, []), (0, 2, [0]), (1, 0, [3]), (21, 195, [0, 437]), (0, 1, [1]), (4, 1, []), (7, 0, []), (21, 168, [1, 223]), (15, 0, [1]), (1, 0, [3]), (10, 6, [61, 154]), (0, 1, [24]), (1, 1, [1]), (4, 0, []), (12, 0, []), (17, 2, [1])], [(0, 1, [-1000000000, 471]), (17, 2, [])], [(20, 1, [])]]
abbrev k_m_purse : Nat := 217
def p_m_toll : List Nat := [0, 30, 32]
def b_m_toll : List (List mmOp) := [[(1, 0, [3]), (1, 1, [1]), (21, 213, [0, 465]), (15, 0, [1]), (1, 0, [3]), (1, 2, [1]), (21, 204, [0, 453]), (15, 0, [1]), (1, 0, [3]), (1, 1, [1]), (1, 2, [1]), (1, 0, [3]), (1, 2, [1]), (21, 199, [0, 413]), (21, 219, [0, 416]), (17, 2, [1])], [(0, 1, [-2]), (17, 2, [])], [(20, 1, [])]]
abbrev k_m_toll : Nat := 218
def p_m_tollOf : List Nat := [0, 11, 72, 102, 103, 131, 157, 164, 195, 210, 213, 215, 221, 231, 233]
def b_m_tollOf : List (List mmOp) := [[(1, 0, [3]), (10, 6, [61, 154]), (0, 1, [1]), (12, 0, []), (15, 5, [1]), (0, 1, [0]), (20, 1, [])], [(1, 0, [3]), (10, 6, [60, 151]), (0, 1, [0]), (1, 0, [3]), (1, 1, [1]), (0, 1, [0]), (21, 214, [0, 398]), (13, 0, []), (1, 0, [3]), (10, 6, [60, 151]), (0, 1, [1]), (1, 0, [3]), (1, 1, [1]), (0, 1, [3]), (21, 214, [0, 398]), (13, 0, []), (1, 0, [3]), (10, 6, [60, 151]), (0, 1, [2]), (1, 0, [3]), (1, 2, [1]), (21, 206, [0, 401]), (13, 0, []), (1, 0, [3]), (10, 6, [60, 151]), (0, 1, [3]), (1, 3, [1]), (13, 0, []), (1, 0, [3]), (10, 6, [60, 151]), (0, 1, [4]), (1, 0, [3]), (10, 6, [61, 154]), (0, 1, [0]), (12, 0, []), (13, 0, []), (0, 1, [-1]), (2, 4, [1]), (0, 1, [8]), (2, 5, [1]), (17, 2, [])], [(1, 5, [1]), (0, 1, [8]), (1, 0, [3]), (10, 6, [39, 105]), (0, 1, [9]), (12, 0, []), (4, 0, []), (16, 3, [12]), (1, 0, [3]), (10, 6, [47, 130]), (1, 5, [1]), (12, 0, []), (0, 1, [1]), (16, 1, [3]), (0, 1, [1]), (17, 4, [1])], [(0, 1, [0]), (17, 4, [])], [(2, 6, [1]), (1, 0, [3]), (10, 6, [46, 127]), (1, 5, [1]), (12, 0, []), (1, 0, [3]), (1, 2, [1]), (21, 205, [0, 404]), (16, 1, [11]), (1, 6, [1]), (15, 1, [5]), (1, 4, [1]), (0, 1, [-1]), (16, 1, [11]), (17, 5, [])], [(1, 0, [3]), (1, 0, [3]), (10, 6, [55, 142]), (1, 5, [1]), (12, 0, []), (1, 0, [3]), (10, 6, [56, 145]), (1, 5, [1]), (12, 0, []), (21, 220, [0, 407]), (0, 2, [1]), (8, 0, []), (15, 0, [6]), (17, 11, [1])], [(1, 6, [1]), (15, 0, [7]), (0, 1, [-1]), (20, 1, [])], [(1, 0, [3]), (1, 0, [3]), (10, 6, [54, 139]), (1, 5, [1]), (12, 0, []), (1, 0, [3]), (10, 6, [55, 142]), (1, 5, [1]), (12, 0, []), (21, 220, [0, 407]), (2, 7, [2]), (1, 7, [2]), (0, 2, [0]), (8, 0, []), (15, 3, [8]), (0, 1, [0]), (17, 10, [1])], [(1, 7, [2]), (0, 2, [999, 411]), (8, 0, []), (15, 5, [9]), (0, 1, [999]), (17, 10, [1])], [(1, 7, [2]), (7, 1, []), (17, 10, [])], [(2, 4, [1]), (17, 11, [])], [(3, 5, [1]), (17, 2, [1])], [(1, 4, [1]), (0, 1, [-1]), (16, 1, [13]), (0, 1, [0]), (17, 14, [1])], [(1, 4, [1]), (17, 14, [])], [(20, 1, [])]]
abbrev k_m_tollOf : Nat := 219
def p_m_told : List Nat := [0, 7, 46, 61, 95, 128, 134, 140]
def b_m_told : List (List mmOp) := [[(1, 0, [3]), (0, 1, [0]), (11, 6, [59, 370]), (1, 1, [1]), (2, 3, [1]), (17, 1, [])], [(1, 3, [1]), (1, 2, [1]), (16, 3, [7]), (1, 0, [3]), (10, 6, [49, 133]), (0, 1, [1600]), (1, 3, [1]), (4, 0, []), (12, 0, []), (2, 4, [1]), (1, 4, [1]), (0, 1, [1000]), (16, 2, [2]), (1, 0, [3]), (1, 4, [1]), (0, 1, [1000]), (4, 1, []), (7, 0, []), (21, 221, [0, 377]), (17, 6, [1])], [(1, 4, [1]), (0, 1, [18]), (16, 1, [3]), (1, 0, [3]), (0, 2, [1]), (21, 221, [0, 377]), (17, 6, [1])], [(1, 4, [1]), (0, 1, [17]), (16, 1, [4]), (1, 0, [3]), (10, 6, [58, 148]), (1, 0, [3]), (10, 6, [59, 370]), (0, 1, [1]), (4, 1, []), (0, 2, [1]), (1, 0, [3]), (10, 6, [58, 148]), (1, 0, [3]), (10, 6, [59, 370]), (0, 1, [1]), (4, 1, []), (12, 1, []), (5, 1, []), (13, 1, []), (17, 6, [1])], [(1, 4, [1]), (7, 0, []), (0, 2, [7, 385]), (0, 2, [11, 387]), (21, 168, [1, 223]), (15, 0, [5]), (1, 0, [3]), (1, 0, [3]), (10, 6, [60, 151]), (1, 4, [1]), (0, 1, [7]), (4, 1, []), (12, 0, []), (7, 0, []), (21, 221, [0, 377]), (17, 6, [1])], [(1, 0, [3]), (1, 4, [1]), (21, 222, [0, 389]), (17, 6, [])], [(3, 3, [1]), (17, 1, [1])], [(1, 0, [3]), (10, 6, [58, 148]), (0, 1, [0]), (12, 1, []), (20, 2, [])]]
abbrev k_m_told : Nat := 220
def p_m_puts : List Nat := [0]
def b_m_puts : List (List mmOp) := [[(1, 0, [3]), (10, 6, [58, 148]), (1, 0, [3]), (10, 6, [59, 370]), (1, 1, [2]), (13, 1, []), (1, 0, [3]), (9, 0, []), (10, 6, [59, 370]), (0, 1, [1]), (4, 0, []), (11, 6, [59, 370]), (20, 0, [])]]
abbrev k_m_puts : Nat := 221
def p_m_joins : List Nat := [0, 112, 126, 140, 154, 167, 180, 181, 187, 200, 201, 207, 219, 220, 226, 238, 239, 245, 257, 258, 264, 275, 289, 290, 293]
def b_m_joins : List (List mmOp) := [[(1, 0, [3]), (10, 6, [58, 148]), (1, 0, [3]), (10, 6, [59, 370]), (0, 1, [1]), (4, 1, []), (12, 1, []), (2, 2, [2]), (1, 0, [3]), (10, 6, [58, 148]), (1, 0, [3]), (10, 6, [59, 370]), (0, 1, [2]), (4, 1, []), (12, 1, []), (2, 4, [2]), (1, 0, [3]), (9, 0, []), (10, 6, [59, 370]), (0, 1, [2]), (4, 1, []), (11, 6, [59, 370]), (1, 1, [1]), (18, 1, [21, 1, 2, 3, 4, 5, 8, 21, 21, 21, 21, 21, 11, 14, 17, 20])], [(1, 0, [3]), (1, 4, [2]), (1, 2, [2]), (5, 0, []), (21, 223, [1, 373]), (21, 221, [0, 377]), (17, 24, [1])], [(1, 0, [3]), (1, 4, [2]), (1, 2, [2]), (5, 1, []), (21, 223, [1, 373]), (21, 221, [0, 377]), (17, 24, [1])], [(1, 0, [3]), (1, 4, [2]), (1, 2, [2]), (5, 2, []), (21, 223, [1, 373]), (21, 221, [0, 377]), (17, 24, [1])], [(1, 0, [3]), (1, 4, [2]), (1, 2, [2]), (21, 224, [1, 381]), (21, 221, [0, 377]), (17, 24, [1])], [(1, 0, [3]), (1, 4, [2]), (1, 2, [2]), (8, 0, []), (15, 3, [6]), (1, 4, [2]), (17, 7, [1])], [(1, 2, [2]), (17, 7, [])], [(21, 221, [0, 377]), (17, 24, [1])], [(1, 0, [3]), (1, 4, [2]), (1, 2, [2]), (8, 0, []), (15, 5, [9]), (1, 4, [2]), (17, 10, [1])], [(1, 2, [2]), (17, 10, [])], [(21, 221, [0, 377]), (17, 24, [1])], [(1, 0, [3]), (1, 4, [2]), (1, 2, [2]), (8, 0, []), (15, 3, [12]), (0, 2, [1]), (17, 13, [1])], [(0, 2, [0]), (17, 13, [])], [(21, 221, [0, 377]), (17, 24, [1])], [(1, 0, [3]), (1, 4, [2]), (1, 2, [2]), (8, 0, []), (15, 5, [15]), (0, 2, [1]), (17, 16, [1])], [(0, 2, [0]), (17, 16, [])], [(21, 221, [0, 377]), (17, 24, [1])], [(1, 0, [3]), (1, 4, [2]), (1, 2, [2]), (8, 0, []), (15, 1, [18]), (0, 2, [1]), (17, 19, [1])], [(0, 2, [0]), (17, 19, [])], [(21, 221, [0, 377]), (17, 24, [1])], [(1, 0, [3]), (1, 4, [2]), (1, 2, [2]), (5, 2, []), (21, 221, [0, 377]), (17, 24, [1])], [(1, 0, [3]), (1, 4, [2]), (1, 2, [2]), (5, 0, []), (0, 2, [0]), (8, 0, []), (15, 5, [22]), (0, 2, [1]), (17, 23, [1])], [(0, 2, [0]), (17, 23, [])], [(21, 221, [0, 377]), (17, 24, [])], [(20, 0, [])]]
abbrev k_m_joins : Nat := 222
def p_m_clip : List Nat := [0, 14, 28, 29]
def b_m_clip : List (List mmOp) := [[(1, 0, [2]), (0, 2, [1000000, 366]), (8, 0, []), (15, 5, [1]), (0, 2, [1000000, 366]), (17, 3, [1])], [(1, 0, [2]), (0, 2, [-1000000, 368]), (8, 0, []), (15, 3, [2]), (0, 2, [-1000000, 368]), (17, 3, [1])], [(1, 0, [2]), (17, 3, [])], [(20, 2, [])]]
abbrev k_m_clip : Nat := 223
def p_m_floor : List Nat := [0, 8, 31, 32, 42, 43, 53, 55]
def b_m_floor : List (List mmOp) := [[(1, 2, [2]), (0, 2, [0]), (8, 0, []), (15, 1, [1]), (0, 2, [0]), (20, 2, [])], [(1, 0, [2]), (1, 2, [2]), (6, 2, []), (2, 4, [2]), (1, 0, [2]), (1, 2, [2]), (6, 3, []), (0, 2, [0]), (8, 0, []), (15, 0, [6]), (1, 0, [2]), (0, 2, [0]), (8, 0, []), (15, 3, [2]), (0, 1, [1]), (17, 3, [1])], [(0, 1, [0]), (17, 3, [])], [(1, 2, [2]), (0, 2, [0]), (8, 0, []), (15, 3, [4]), (0, 1, [1]), (17, 5, [1])], [(0, 1, [0]), (17, 5, [])], [(16, 0, [6]), (1, 4, [2]), (0, 2, [1]), (5, 1, []), (17, 7, [1])], [(1, 4, [2]), (17, 7, [])], [(20, 2, [])]]
abbrev k_m_floor : Nat := 224
def p_m_step : List Nat := [0, 24, 26, 63, 64]
def b_m_step : List (List mmOp) := [[(1, 0, [3]), (1, 1, [1]), (21, 213, [0, 465]), (15, 0, [1]), (1, 0, [3]), (1, 2, [1]), (21, 204, [0, 453]), (15, 0, [1]), (1, 0, [3]), (1, 3, [1]), (21, 204, [0, 453]), (15, 1, [2]), (17, 1, [])], [(0, 1, [-1]), (20, 1, [])], [(1, 0, [3]), (1, 1, [1]), (1, 2, [1]), (1, 3, [1]), (21, 226, [0, 424]), (15, 0, [3]), (1, 0, [3]), (1, 3, [1]), (21, 199, [0, 413]), (15, 5, [3]), (1, 0, [3]), (1, 1, [1]), (1, 3, [1]), (1, 0, [3]), (1, 3, [1]), (21, 199, [0, 413]), (21, 219, [0, 416]), (0, 1, [-1]), (16, 0, [3]), (0, 1, [1]), (17, 4, [1])], [(0, 1, [0]), (17, 4, [])], [(20, 1, [])]]
abbrev k_m_step : Nat := 225
def p_m_isNear : List Nat := [0, 65, 66]
def b_m_isNear : List (List mmOp) := [[(1, 0, [3]), (10, 6, [42, 115]), (0, 1, [100]), (0, 1, [10]), (1, 2, [1]), (4, 2, []), (4, 0, []), (1, 3, [1]), (4, 0, []), (12, 0, []), (0, 1, [1]), (4, 1, []), (2, 4, [1]), (1, 4, [1]), (15, 2, [1]), (1, 4, [1]), (1, 0, [3]), (10, 6, [61, 154]), (0, 1, [1]), (12, 0, []), (4, 1, []), (1, 0, [3]), (1, 1, [1]), (0, 1, [1]), (21, 214, [0, 398]), (16, 4, [1]), (1, 0, [3]), (1, 3, [1]), (21, 206, [0, 401]), (1, 0, [3]), (1, 2, [1]), (21, 206, [0, 401]), (4, 1, []), (1, 0, [3]), (1, 1, [1]), (0, 1, [2]), (21, 214, [0, 398]), (16, 4, [1]), (0, 1, [1]), (17, 2, [1])], [(0, 1, [0]), (17, 2, [])], [(20, 4, [])]]
abbrev k_m_isNear : Nat := 226
def p_m_way : List Nat := [0, 16, 18, 45, 53, 68, 78, 99]
def b_m_way : List (List mmOp) := [[(1, 0, [3]), (1, 1, [1]), (21, 213, [0, 465]), (15, 0, [1]), (1, 0, [3]), (1, 1, [1]), (21, 228, [0, 472]), (15, 1, [2]), (17, 1, [])], [(0, 1, [-1]), (20, 1, [])], [(1, 0, [3]), (10, 6, [65, 167]), (1, 0, [3]), (1, 1, [1]), (21, 210, [0, 427]), (12, 0, []), (2, 3, [1]), (1, 2, [1]), (0, 1, [-1]), (16, 1, [3]), (1, 0, [3]), (10, 6, [64, 164]), (1, 0, [3]), (1, 1, [1]), (21, 210, [0, 427]), (12, 0, []), (20, 1, [])], [(1, 2, [1]), (0, 1, [20]), (16, 1, [4]), (1, 3, [1]), (20, 1, [])], [(1, 2, [1]), (7, 0, []), (0, 2, [0]), (1, 3, [1]), (0, 1, [1]), (4, 1, []), (7, 0, []), (21, 168, [1, 223]), (15, 1, [5]), (0, 1, [-1]), (20, 1, [])], [(1, 0, [3]), (1, 1, [1]), (21, 210, [0, 427]), (2, 4, [1]), (0, 1, [0]), (2, 5, [1]), (17, 6, [])], [(1, 5, [1]), (1, 2, [1]), (16, 4, [7]), (1, 0, [3]), (1, 1, [1]), (1, 4, [1]), (21, 231, [0, 475]), (2, 4, [1]), (3, 5, [1]), (17, 6, [1])], [(1, 4, [1]), (20, 1, [])]]
abbrev k_m_way : Nat := 227
def p_m_hasWay : List Nat := [0]
def b_m_hasWay : List (List mmOp) := [[(1, 0, [3]), (1, 1, [1]), (0, 1, [0]), (0, 1, [0]), (0, 1, [31]), (21, 229, [0, 430]), (1, 0, [3]), (1, 1, [1]), (0, 1, [-1]), (0, 1, [-1]), (21, 230, [0, 434]), (20, 4, [])]]
abbrev k_m_hasWay : Nat := 228
def p_m_comes : List Nat := [0, 3, 26, 49, 55, 114, 115, 122]
def b_m_comes : List (List mmOp) := [[(0, 1, [0]), (2, 5, [1]), (17, 1, [])], [(1, 5, [1]), (1, 0, [3]), (21, 196, [0, 392]), (16, 3, [7]), (1, 2, [1]), (1, 5, [1]), (4, 7, []), (0, 1, [1]), (4, 3, []), (0, 1, [1]), (16, 1, [2]), (0, 1, [0]), (17, 4, [1])], [(1, 3, [1]), (1, 5, [1]), (4, 7, []), (0, 1, [1]), (4, 3, []), (0, 1, [1]), (16, 1, [3]), (1, 0, [3]), (1, 5, [1]), (21, 199, [0, 413]), (15, 1, [3]), (0, 1, [1]), (17, 4, [1])], [(1, 0, [3]), (1, 5, [1]), (21, 199, [0, 413]), (17, 4, [])], [(2, 6, [1]), (1, 0, [3]), (10, 6, [63, 161]), (1, 5, [1]), (1, 0, [3]), (1, 1, [1]), (1, 5, [1]), (1, 6, [1]), (21, 219, [0, 416]), (13, 0, []), (1, 0, [3]), (10, 6, [62, 157]), (1, 5, [1]), (1, 6, [1]), (15, 5, [5]), (1, 0, [3]), (10, 6, [63, 161]), (1, 5, [1]), (12, 0, []), (0, 1, [-1]), (16, 0, [5]), (1, 4, [1]), (1, 0, [3]), (1, 5, [1]), (21, 205, [0, 404]), (4, 7, []), (0, 1, [1]), (4, 3, []), (0, 1, [1]), (16, 1, [5]), (0, 1, [1]), (17, 6, [1])], [(0, 1, [0]), (17, 6, [])], [(13, 3, []), (3, 5, [1]), (17, 1, [1])], [(20, 0, [])]]
abbrev k_m_comes : Nat := 229
def p_m_finds : List Nat := [0, 3, 38, 63, 75, 87, 108, 120, 124, 125, 170, 237, 255, 261, 267, 273, 293, 294]
def b_m_finds : List (List mmOp) := [[(0, 1, [0]), (2, 4, [1]), (17, 1, [])], [(1, 4, [1]), (1, 0, [3]), (21, 196, [0, 392]), (16, 3, [2]), (1, 0, [3]), (10, 6, [64, 164]), (1, 4, [1]), (0, 1, [1000000, 420]), (13, 0, []), (1, 0, [3]), (10, 6, [65, 167]), (1, 4, [1]), (0, 1, [1000000, 420]), (13, 0, []), (3, 4, [1]), (17, 1, [1])], [(1, 0, [3]), (10, 6, [64, 164]), (1, 0, [3]), (1, 1, [1]), (21, 215, [0, 421]), (0, 1, [0]), (13, 0, []), (1, 0, [3]), (10, 6, [65, 167]), (1, 0, [3]), (1, 1, [1]), (21, 215, [0, 421]), (0, 1, [0]), (13, 0, []), (0, 1, [0]), (2, 4, [1]), (17, 3, [])], [(1, 4, [1]), (1, 0, [3]), (21, 196, [0, 392]), (16, 3, [15]), (0, 1, [0]), (2, 5, [1]), (17, 4, [])], [(1, 5, [1]), (1, 0, [3]), (21, 196, [0, 392]), (16, 3, [14]), (0, 1, [0]), (2, 6, [1]), (17, 5, [])], [(1, 6, [1]), (1, 0, [3]), (21, 196, [0, 392]), (16, 3, [13]), (1, 5, [1]), (1, 2, [1]), (16, 1, [6]), (1, 6, [1]), (1, 3, [1]), (16, 0, [7]), (17, 6, [])], [(1, 5, [1]), (1, 3, [1]), (16, 1, [8]), (1, 6, [1]), (1, 2, [1]), (16, 1, [8]), (17, 7, [])], [(0, 1, [1]), (17, 9, [1])], [(0, 1, [0]), (17, 9, [])], [(2, 7, [1]), (1, 7, [1]), (15, 1, [12]), (1, 0, [3]), (10, 6, [64, 164]), (1, 6, [1]), (12, 0, []), (0, 1, [1000000, 420]), (16, 0, [12]), (1, 0, [3]), (10, 6, [62, 157]), (1, 6, [1]), (12, 3, []), (15, 0, [12]), (1, 0, [3]), (1, 1, [1]), (1, 5, [1]), (1, 6, [1]), (21, 226, [0, 424]), (15, 1, [10]), (17, 12, [1])], [(1, 0, [3]), (10, 6, [64, 164]), (1, 6, [1]), (12, 0, []), (1, 0, [3]), (10, 6, [63, 161]), (1, 6, [1]), (12, 0, []), (4, 0, []), (2, 8, [1]), (1, 0, [3]), (10, 6, [65, 167]), (1, 6, [1]), (12, 0, []), (0, 1, [1]), (4, 0, []), (2, 9, [1]), (1, 8, [1]), (1, 0, [3]), (10, 6, [64, 164]), (1, 5, [1]), (12, 0, []), (16, 4, [12]), (1, 8, [1]), (1, 0, [3]), (10, 6, [64, 164]), (1, 5, [1]), (12, 0, []), (16, 1, [11]), (1, 9, [1]), (1, 0, [3]), (10, 6, [65, 167]), (1, 5, [1]), (12, 0, []), (16, 2, [11]), (17, 12, [1])], [(1, 0, [3]), (10, 6, [64, 164]), (1, 5, [1]), (1, 8, [1]), (13, 0, []), (1, 0, [3]), (10, 6, [65, 167]), (1, 5, [1]), (1, 9, [1]), (13, 0, []), (17, 12, [])], [(3, 6, [1]), (17, 5, [1])], [(3, 5, [1]), (17, 4, [1])], [(3, 4, [1]), (17, 3, [1])], [(1, 0, [3]), (10, 6, [64, 164]), (1, 0, [3]), (1, 1, [1]), (21, 210, [0, 427]), (12, 0, []), (0, 1, [1000000, 420]), (16, 3, [16]), (0, 1, [1]), (17, 17, [1])], [(0, 1, [0]), (17, 17, [])], [(20, 4, [])]]
abbrev k_m_finds : Nat := 230
def p_m_nextOf : List Nat := [0, 2, 72, 78]
def b_m_nextOf : List (List mmOp) := [[(0, 1, [0]), (2, 3, [1]), (17, 1, [])], [(1, 0, [3]), (10, 6, [62, 157]), (1, 3, [1]), (12, 3, []), (15, 0, [2]), (1, 0, [3]), (1, 1, [1]), (1, 2, [1]), (1, 3, [1]), (21, 226, [0, 424]), (15, 0, [2]), (1, 0, [3]), (10, 6, [64, 164]), (1, 3, [1]), (12, 0, []), (0, 1, [1000000, 420]), (16, 0, [2]), (1, 0, [3]), (10, 6, [64, 164]), (1, 3, [1]), (12, 0, []), (1, 0, [3]), (10, 6, [63, 161]), (1, 3, [1]), (12, 0, []), (4, 0, []), (1, 0, [3]), (10, 6, [64, 164]), (1, 2, [1]), (12, 0, []), (16, 1, [2]), (1, 0, [3]), (10, 6, [65, 167]), (1, 3, [1]), (12, 0, []), (0, 1, [1]), (4, 0, []), (1, 0, [3]), (10, 6, [65, 167]), (1, 2, [1]), (12, 0, []), (16, 0, [3]), (17, 2, [])], [(3, 3, [1]), (17, 1, [1])], [(1, 3, [1]), (20, 1, [])]]
abbrev k_m_nextOf : Nat := 231
def p_m_leave : List Nat := [0, 18, 20, 25, 56, 78, 84, 93, 104, 105]
def b_m_leave : List (List mmOp) := [[(1, 0, [3]), (1, 1, [1]), (21, 213, [0, 465]), (15, 0, [1]), (1, 2, [1]), (7, 0, []), (0, 2, [0]), (0, 2, [1]), (21, 168, [1, 223]), (15, 1, [2]), (17, 1, [])], [(0, 1, [-1]), (20, 1, [])], [(0, 1, [-1]), (2, 3, [1]), (0, 1, [0]), (2, 4, [1]), (17, 3, [])], [(1, 4, [1]), (0, 1, [1]), (1, 0, [3]), (21, 195, [0, 437]), (4, 6, []), (16, 3, [6]), (1, 3, [1]), (0, 1, [-1]), (16, 0, [4]), (1, 4, [1]), (21, 201, [1, 446]), (1, 3, [1]), (21, 201, [1, 446]), (16, 2, [4]), (17, 5, [1])], [(1, 0, [3]), (1, 1, [1]), (0, 1, [0]), (0, 1, [0]), (1, 4, [1]), (21, 229, [0, 430]), (1, 0, [3]), (1, 1, [1]), (0, 1, [-1]), (0, 1, [-1]), (21, 230, [0, 434]), (15, 0, [5]), (1, 4, [1]), (2, 3, [1]), (17, 5, [])], [(3, 4, [1]), (17, 3, [1])], [(1, 3, [1]), (0, 1, [-1]), (16, 1, [7]), (0, 1, [-1]), (17, 9, [1])], [(1, 2, [1]), (15, 1, [8]), (1, 3, [1]), (21, 201, [1, 446]), (17, 9, [1])], [(1, 3, [1]), (17, 9, [])], [(20, 1, [])]]
abbrev k_m_leave : Nat := 232
def p_m_undo : List Nat := [0, 9, 11, 45]
def b_m_undo : List (List mmOp) := [[(1, 0, [3]), (10, 6, [67, 324]), (15, 1, [1]), (0, 1, [0]), (20, 4, [])], [(0, 1, [0]), (2, 1, [1]), (17, 2, [])], [(1, 1, [1]), (0, 1, [210]), (16, 3, [3]), (1, 0, [3]), (10, 6, [61, 154]), (1, 1, [1]), (1, 0, [3]), (10, 6, [66, 170]), (0, 1, [210]), (1, 0, [3]), (10, 6, [68, 478]), (4, 2, []), (1, 1, [1]), (4, 0, []), (12, 0, []), (13, 0, []), (3, 1, [1]), (17, 2, [1])], [(1, 0, [3]), (1, 0, [3]), (10, 6, [68, 478]), (0, 1, [20]), (4, 0, []), (0, 1, [1]), (4, 1, []), (0, 1, [20]), (6, 1, []), (11, 6, [68, 478]), (1, 0, [3]), (9, 0, []), (10, 6, [67, 324]), (0, 1, [1]), (4, 1, []), (11, 6, [67, 324]), (0, 1, [1]), (20, 4, [])]]
abbrev k_m_undo : Nat := 233
def p_m_go : List Nat := [0, 16, 18]
def b_m_go : List (List mmOp) := [[(1, 0, [3]), (1, 1, [1]), (21, 213, [0, 465]), (15, 0, [1]), (1, 0, [3]), (1, 1, [1]), (21, 228, [0, 472]), (15, 1, [2]), (17, 1, [])], [(0, 1, [-1]), (20, 1, [])], [(1, 0, [3]), (10, 6, [64, 164]), (1, 0, [3]), (1, 1, [1]), (21, 210, [0, 427]), (12, 0, []), (2, 2, [1]), (1, 0, [3]), (21, 235, [0, 488]), (1, 0, [3]), (1, 1, [1]), (21, 236, [0, 491]), (2, 3, [1]), (1, 2, [1]), (20, 1, [])]]
abbrev k_m_go : Nat := 234
def p_m_keeps : List Nat := [0, 15, 49, 68]
def b_m_keeps : List (List mmOp) := [[(1, 0, [3]), (1, 0, [3]), (10, 6, [68, 478]), (0, 1, [1]), (4, 0, []), (0, 1, [20]), (6, 1, []), (11, 6, [68, 478]), (0, 1, [0]), (2, 1, [1]), (17, 1, [])], [(1, 1, [1]), (0, 1, [210]), (16, 3, [2]), (1, 0, [3]), (10, 6, [66, 170]), (0, 1, [210]), (1, 0, [3]), (10, 6, [68, 478]), (4, 2, []), (1, 1, [1]), (4, 0, []), (1, 0, [3]), (10, 6, [61, 154]), (1, 1, [1]), (12, 0, []), (13, 0, []), (3, 1, [1]), (17, 1, [1])], [(1, 0, [3]), (10, 6, [67, 324]), (0, 1, [20]), (16, 3, [3]), (1, 0, [3]), (9, 0, []), (10, 6, [67, 324]), (0, 1, [1]), (4, 0, []), (11, 6, [67, 324]), (17, 3, [])], [(20, 0, [])]]
abbrev k_m_keeps : Nat := 235
def p_m_walks : List Nat := [0, 10, 18, 68, 92]
def b_m_walks : List (List mmOp) := [[(1, 0, [3]), (1, 1, [1]), (21, 228, [0, 472]), (15, 1, [1]), (0, 1, [0]), (20, 1, [])], [(0, 1, [0]), (2, 2, [1]), (1, 0, [3]), (1, 1, [1]), (21, 210, [0, 427]), (2, 3, [1]), (17, 2, [])], [(1, 3, [1]), (1, 0, [3]), (1, 1, [1]), (21, 215, [0, 421]), (16, 0, [4]), (1, 0, [3]), (1, 1, [1]), (1, 3, [1]), (21, 231, [0, 475]), (2, 3, [1]), (1, 0, [3]), (10, 6, [61, 154]), (0, 1, [24]), (1, 0, [3]), (1, 3, [1]), (21, 205, [0, 404]), (4, 0, []), (9, 1, []), (12, 0, []), (1, 0, [3]), (10, 6, [63, 161]), (1, 3, [1]), (12, 0, []), (4, 0, []), (13, 0, []), (1, 0, [3]), (1, 1, [1]), (1, 3, [1]), (21, 237, [0, 481]), (15, 1, [3]), (17, 2, [1])], [(1, 0, [3]), (10, 6, [61, 154]), (0, 1, [2]), (1, 3, [1]), (4, 0, []), (9, 1, []), (12, 0, []), (0, 1, [1]), (4, 1, []), (13, 0, []), (1, 0, [3]), (1, 3, [1]), (1, 1, [1]), (21, 238, [0, 485]), (3, 2, [1]), (17, 2, [1])], [(1, 0, [3]), (10, 6, [61, 154]), (0, 1, [12]), (0, 1, [2]), (1, 1, [1]), (4, 2, []), (4, 0, []), (0, 1, [1]), (4, 0, []), (1, 0, [3]), (1, 1, [1]), (21, 210, [0, 427]), (13, 0, []), (1, 0, [3]), (10, 6, [61, 154]), (0, 1, [12]), (0, 1, [2]), (1, 1, [1]), (4, 2, []), (4, 0, []), (1, 3, [1]), (13, 0, []), (1, 2, [1]), (20, 1, [])]]
abbrev k_m_walks : Nat := 236
def p_m_breaks : List Nat := [0, 25, 26]
def b_m_breaks : List (List mmOp) := [[(1, 0, [3]), (1, 1, [1]), (0, 1, [0]), (21, 214, [0, 398]), (1, 0, [3]), (10, 6, [44, 121]), (0, 1, [1]), (12, 0, []), (1, 0, [3]), (1, 2, [1]), (21, 199, [0, 413]), (4, 2, []), (16, 5, [1]), (0, 1, [1]), (17, 2, [1])], [(0, 1, [0]), (17, 2, [])], [(20, 4, [])]]
abbrev k_m_breaks : Nat := 237
def p_m_leads : List Nat := [0, 15, 42, 45, 56]
def b_m_leads : List (List mmOp) := [[(1, 0, [3]), (10, 6, [61, 154]), (0, 1, [29]), (12, 0, []), (0, 1, [60]), (16, 1, [3]), (0, 1, [30]), (2, 3, [1]), (17, 1, [])], [(1, 3, [1]), (0, 1, [207]), (16, 3, [2]), (1, 0, [3]), (10, 6, [61, 154]), (1, 3, [1]), (1, 0, [3]), (10, 6, [61, 154]), (1, 3, [1]), (0, 1, [3]), (4, 0, []), (12, 0, []), (13, 0, []), (3, 3, [1]), (17, 1, [1])], [(17, 4, [1])], [(1, 0, [3]), (10, 6, [61, 154]), (0, 1, [29]), (9, 1, []), (12, 0, []), (0, 1, [1]), (4, 0, []), (13, 0, []), (17, 4, [])], [(0, 1, [30]), (0, 1, [3]), (1, 0, [3]), (10, 6, [61, 154]), (0, 1, [29]), (12, 0, []), (4, 2, []), (4, 0, []), (0, 1, [3]), (4, 1, []), (2, 3, [1]), (1, 0, [3]), (10, 6, [61, 154]), (1, 3, [1]), (1, 0, [3]), (10, 6, [61, 154]), (0, 1, [0]), (12, 0, []), (13, 0, []), (1, 0, [3]), (10, 6, [61, 154]), (1, 3, [1]), (0, 1, [1]), (4, 0, []), (1, 1, [1]), (13, 0, []), (1, 0, [3]), (10, 6, [61, 154]), (1, 3, [1]), (0, 1, [2]), (4, 0, []), (1, 2, [1]), (13, 0, []), (20, 0, [])]]
abbrev k_m_leads : Nat := 238
def p_m_seed : List Nat := [0, 6]
def b_m_seed : List (List mmOp) := [[(1, 1, [1]), (15, 3, [1]), (0, 1, [0]), (20, 4, [])], [(1, 0, [3]), (1, 1, [1]), (7, 0, []), (11, 6, [69, 173]), (0, 1, [1]), (20, 4, [])]]
abbrev k_m_seed : Nat := 239
def p_m_night : List Nat := [0, 14, 22, 44, 63, 64, 67, 105, 111]
def b_m_night : List (List mmOp) := [[(1, 0, [3]), (10, 6, [61, 154]), (0, 1, [0]), (12, 0, []), (0, 1, [999]), (16, 1, [1]), (0, 1, [-1]), (20, 1, [])], [(1, 0, [3]), (21, 235, [0, 488]), (0, 1, [0]), (2, 1, [1]), (0, 1, [0]), (2, 2, [1]), (17, 2, [])], [(1, 2, [1]), (1, 0, [3]), (21, 197, [0, 395]), (16, 3, [3]), (1, 1, [1]), (1, 0, [3]), (1, 2, [1]), (21, 236, [0, 491]), (4, 0, []), (2, 1, [1]), (3, 2, [1]), (17, 2, [1])], [(1, 0, [3]), (0, 1, [100]), (21, 241, [0, 502]), (1, 0, [3]), (10, 6, [45, 124]), (0, 1, [1]), (12, 0, []), (16, 3, [4]), (0, 1, [1]), (17, 5, [1])], [(0, 1, [0]), (17, 5, [])], [(2, 2, [1]), (0, 1, [0]), (2, 3, [1]), (17, 6, [])], [(1, 3, [1]), (1, 0, [3]), (21, 196, [0, 392]), (16, 3, [8]), (1, 2, [1]), (15, 0, [7]), (1, 0, [3]), (1, 3, [1]), (21, 199, [0, 413]), (0, 1, [3]), (16, 3, [7]), (1, 0, [3]), (10, 6, [61, 154]), (0, 1, [24]), (1, 0, [3]), (1, 3, [1]), (21, 205, [0, 404]), (4, 0, []), (9, 1, []), (12, 0, []), (0, 1, [1]), (4, 1, []), (13, 0, []), (17, 7, [])], [(3, 3, [1]), (17, 6, [1])], [(1, 0, [3]), (10, 6, [61, 154]), (0, 1, [0]), (9, 1, []), (12, 0, []), (0, 1, [1]), (4, 0, []), (13, 0, []), (1, 1, [1]), (20, 1, [])]]
abbrev k_m_night : Nat := 240
def p_m_drawOf : List Nat := [0]
def b_m_drawOf : List (List mmOp) := [[(1, 0, [3]), (0, 2, [1103515245, 494]), (1, 0, [3]), (10, 6, [69, 173]), (5, 2, []), (0, 2, [12345, 496]), (5, 0, []), (0, 2, [2147483648, 498]), (6, 3, []), (11, 6, [69, 173]), (1, 0, [3]), (10, 6, [69, 173]), (0, 2, [64, 500]), (6, 2, []), (1, 1, [1]), (7, 0, []), (6, 3, []), (7, 1, []), (20, 1, [])]]
abbrev k_m_drawOf : Nat := 241
def p_m_patch : List Nat := [0, 47, 49]
def b_m_patch : List (List mmOp) := [[(1, 0, [3]), (1, 1, [1]), (21, 204, [0, 453]), (15, 0, [1]), (1, 0, [3]), (1, 2, [1]), (21, 204, [0, 453]), (15, 0, [1]), (1, 1, [1]), (1, 2, [1]), (16, 0, [1]), (1, 0, [3]), (1, 1, [1]), (21, 199, [0, 413]), (15, 0, [1]), (1, 0, [3]), (1, 1, [1]), (21, 208, [0, 459]), (15, 1, [1]), (1, 0, [3]), (1, 2, [1]), (21, 199, [0, 413]), (0, 1, [30]), (16, 1, [2]), (17, 1, [])], [(0, 1, [0]), (20, 4, [])], [(1, 0, [3]), (21, 235, [0, 488]), (1, 0, [3]), (10, 6, [61, 154]), (0, 1, [2]), (1, 1, [1]), (4, 0, []), (9, 1, []), (12, 0, []), (0, 1, [1]), (4, 1, []), (13, 0, []), (1, 0, [3]), (10, 6, [61, 154]), (0, 1, [2]), (1, 2, [1]), (4, 0, []), (9, 1, []), (12, 0, []), (0, 1, [1]), (4, 0, []), (13, 0, []), (0, 1, [1]), (20, 4, [])]]
abbrev k_m_patch : Nat := 242
def p_m_snow : List Nat := [0, 14]
def b_m_snow : List (List mmOp) := [[(1, 1, [1]), (7, 0, []), (0, 2, [0]), (0, 2, [9, 505]), (21, 168, [1, 223]), (15, 1, [1]), (0, 1, [-1]), (20, 1, [])], [(1, 0, [3]), (10, 6, [61, 154]), (0, 1, [1]), (12, 0, []), (2, 2, [1]), (1, 0, [3]), (21, 235, [0, 488]), (1, 0, [3]), (10, 6, [61, 154]), (0, 1, [1]), (1, 1, [1]), (13, 0, []), (1, 2, [1]), (20, 1, [])]]
abbrev k_m_snow : Nat := 243
def p_m_burns : List Nat := [0, 37, 38]
def b_m_burns : List (List mmOp) := [[(1, 0, [3]), (1, 1, [1]), (21, 204, [0, 453]), (15, 0, [1]), (1, 2, [1]), (7, 0, []), (0, 2, [0]), (0, 2, [20, 507]), (21, 168, [1, 223]), (15, 0, [1]), (1, 0, [3]), (1, 1, [1]), (21, 199, [0, 413]), (15, 5, [1]), (1, 0, [3]), (1, 1, [1]), (1, 2, [1]), (21, 245, [0, 509]), (17, 2, [1])], [(0, 1, [-1]), (17, 2, [])], [(20, 1, [])]]
abbrev k_m_burns : Nat := 244
def p_m_firesOn : List Nat := [0, 7, 19, 31, 95, 101, 107, 116]
def b_m_firesOn : List (List mmOp) := [[(0, 1, [1]), (1, 1, [1]), (4, 6, []), (2, 3, [1]), (0, 1, [0]), (2, 4, [1]), (17, 1, [])], [(1, 4, [1]), (1, 2, [1]), (16, 3, [7]), (1, 3, [1]), (2, 5, [1]), (0, 1, [0]), (2, 6, [1]), (17, 2, [])], [(1, 6, [1]), (1, 0, [3]), (21, 196, [0, 392]), (16, 3, [6]), (0, 1, [0]), (2, 7, [1]), (17, 3, [])], [(1, 7, [1]), (1, 0, [3]), (21, 196, [0, 392]), (16, 3, [5]), (1, 3, [1]), (1, 6, [1]), (4, 7, []), (0, 1, [1]), (4, 3, []), (0, 1, [1]), (16, 1, [4]), (1, 0, [3]), (10, 6, [42, 115]), (0, 1, [100]), (0, 1, [10]), (1, 6, [1]), (4, 2, []), (4, 0, []), (1, 7, [1]), (4, 0, []), (12, 0, []), (7, 0, []), (0, 2, [1]), (0, 2, [2, 449]), (21, 168, [1, 223]), (15, 0, [4]), (1, 0, [3]), (1, 7, [1]), (21, 199, [0, 413]), (15, 5, [4]), (1, 5, [1]), (0, 1, [1]), (1, 7, [1]), (4, 6, []), (4, 4, []), (2, 5, [1]), (17, 4, [])], [(3, 7, [1]), (17, 3, [1])], [(3, 6, [1]), (17, 2, [1])], [(1, 5, [1]), (2, 3, [1]), (3, 4, [1]), (17, 1, [1])], [(1, 3, [1]), (20, 1, [])]]
abbrev k_m_firesOn : Nat := 245
def p_m_fire : List Nat := [0, 14, 24, 45, 66, 72]
def b_m_fire : List (List mmOp) := [[(1, 0, [3]), (1, 1, [1]), (1, 2, [1]), (21, 244, [0, 512]), (2, 3, [1]), (1, 3, [1]), (0, 1, [-1]), (16, 1, [1]), (0, 1, [-1]), (20, 1, [])], [(1, 0, [3]), (21, 235, [0, 488]), (0, 1, [0]), (2, 4, [1]), (0, 1, [0]), (2, 5, [1]), (17, 2, [])], [(1, 5, [1]), (1, 0, [3]), (21, 196, [0, 392]), (16, 3, [5]), (1, 3, [1]), (1, 5, [1]), (4, 7, []), (0, 1, [1]), (4, 3, []), (15, 1, [3]), (17, 4, [1])], [(1, 4, [1]), (1, 0, [3]), (1, 5, [1]), (21, 199, [0, 413]), (4, 0, []), (2, 4, [1]), (1, 0, [3]), (10, 6, [61, 154]), (0, 1, [2]), (1, 5, [1]), (4, 0, []), (0, 1, [0]), (13, 0, []), (17, 4, [])], [(3, 5, [1]), (17, 2, [1])], [(1, 4, [1]), (20, 1, [])]]
abbrev k_m_fire : Nat := 246
def p_m_led : List Nat := [0, 47, 48]
def b_m_led : List (List mmOp) := [[(1, 1, [1]), (7, 0, []), (0, 2, [0]), (1, 0, [3]), (10, 6, [61, 154]), (0, 1, [29]), (12, 0, []), (0, 1, [1]), (4, 1, []), (7, 0, []), (21, 168, [1, 223]), (15, 0, [1]), (1, 2, [1]), (7, 0, []), (0, 2, [0]), (0, 2, [2, 449]), (21, 168, [1, 223]), (15, 0, [1]), (1, 0, [3]), (10, 6, [61, 154]), (0, 1, [30]), (0, 1, [3]), (1, 1, [1]), (4, 2, []), (4, 0, []), (1, 2, [1]), (4, 0, []), (12, 0, []), (17, 2, [1])], [(0, 1, [-1]), (17, 2, [])], [(20, 1, [])]]
abbrev k_m_led : Nat := 247
def p_m_stopped : List Nat := [0, 18, 20, 39, 64, 70, 76, 118, 142, 148, 158, 171, 173]
def b_m_stopped : List (List mmOp) := [[(1, 0, [3]), (1, 1, [1]), (21, 213, [0, 465]), (15, 0, [1]), (1, 2, [1]), (7, 0, []), (0, 2, [0]), (0, 2, [1]), (21, 168, [1, 223]), (15, 1, [2]), (17, 1, [])], [(0, 1, [-1]), (20, 1, [])], [(0, 1, [1]), (1, 0, [3]), (1, 1, [1]), (21, 210, [0, 427]), (4, 6, []), (0, 1, [1]), (1, 0, [3]), (1, 1, [1]), (21, 215, [0, 421]), (4, 6, []), (4, 4, []), (2, 3, [1]), (0, 1, [0]), (2, 4, [1]), (17, 3, [])], [(1, 4, [1]), (1, 0, [3]), (21, 196, [0, 392]), (16, 3, [5]), (1, 0, [3]), (1, 4, [1]), (21, 208, [0, 459]), (15, 0, [4]), (1, 3, [1]), (0, 1, [1]), (1, 4, [1]), (4, 6, []), (4, 4, []), (2, 3, [1]), (17, 4, [])], [(3, 4, [1]), (17, 3, [1])], [(0, 1, [-1]), (2, 4, [1]), (0, 1, [0]), (2, 5, [1]), (17, 6, [])], [(1, 5, [1]), (0, 1, [1]), (1, 0, [3]), (21, 196, [0, 392]), (4, 6, []), (16, 3, [9]), (1, 5, [1]), (1, 3, [1]), (4, 3, []), (15, 1, [8]), (1, 4, [1]), (0, 1, [-1]), (16, 0, [7]), (1, 0, [3]), (1, 5, [1]), (21, 249, [0, 515]), (1, 0, [3]), (1, 4, [1]), (21, 249, [0, 515]), (16, 2, [7]), (17, 8, [1])], [(1, 0, [3]), (1, 1, [1]), (1, 5, [1]), (0, 1, [0]), (0, 1, [31]), (21, 229, [0, 430]), (1, 0, [3]), (1, 1, [1]), (0, 1, [-1]), (0, 1, [-1]), (21, 230, [0, 434]), (15, 1, [8]), (1, 5, [1]), (2, 4, [1]), (17, 8, [])], [(3, 5, [1]), (17, 6, [1])], [(1, 4, [1]), (0, 1, [-1]), (16, 1, [10]), (0, 1, [-1]), (17, 12, [1])], [(1, 2, [1]), (15, 1, [11]), (1, 0, [3]), (1, 4, [1]), (21, 249, [0, 515]), (17, 12, [1])], [(1, 4, [1]), (17, 12, [])], [(20, 1, [])]]
abbrev k_m_stopped : Nat := 248
def p_m_tilesBy : List Nat := [0, 4, 29, 35]
def b_m_tilesBy : List (List mmOp) := [[(0, 1, [0]), (2, 2, [1]), (0, 1, [0]), (2, 3, [1]), (17, 1, [])], [(1, 3, [1]), (1, 0, [3]), (21, 196, [0, 392]), (16, 3, [3]), (1, 1, [1]), (1, 3, [1]), (4, 7, []), (0, 1, [1]), (4, 3, []), (0, 1, [1]), (16, 1, [2]), (1, 2, [1]), (1, 0, [3]), (1, 3, [1]), (21, 199, [0, 413]), (4, 0, []), (2, 2, [1]), (17, 2, [])], [(3, 3, [1]), (17, 1, [1])], [(1, 2, [1]), (20, 1, [])]]
abbrev k_m_tilesBy : Nat := 249
def p_m_opened : List Nat := [0, 18, 20, 31, 73, 97, 103, 113, 125, 127]
def b_m_opened : List (List mmOp) := [[(1, 0, [3]), (1, 1, [1]), (21, 213, [0, 465]), (15, 0, [1]), (1, 2, [1]), (7, 0, []), (0, 2, [0]), (0, 2, [1]), (21, 168, [1, 223]), (15, 1, [2]), (17, 1, [])], [(0, 1, [-1]), (20, 1, [])], [(1, 0, [3]), (21, 200, [0, 443]), (2, 3, [1]), (0, 1, [-1]), (2, 4, [1]), (0, 1, [0]), (2, 5, [1]), (17, 3, [])], [(1, 5, [1]), (0, 1, [1]), (1, 0, [3]), (21, 196, [0, 392]), (4, 6, []), (16, 3, [6]), (1, 5, [1]), (1, 3, [1]), (0, 1, [-1]), (4, 5, []), (4, 3, []), (15, 1, [5]), (1, 4, [1]), (0, 1, [-1]), (16, 0, [4]), (1, 5, [1]), (21, 201, [1, 446]), (1, 4, [1]), (21, 201, [1, 446]), (16, 2, [4]), (17, 5, [1])], [(1, 0, [3]), (1, 1, [1]), (0, 1, [0]), (1, 5, [1]), (0, 1, [31]), (21, 229, [0, 430]), (1, 0, [3]), (1, 1, [1]), (0, 1, [-1]), (0, 1, [-1]), (21, 230, [0, 434]), (15, 0, [5]), (1, 5, [1]), (2, 4, [1]), (17, 5, [])], [(3, 5, [1]), (17, 3, [1])], [(1, 4, [1]), (0, 1, [-1]), (16, 1, [7]), (0, 1, [-1]), (17, 9, [1])], [(1, 2, [1]), (15, 1, [8]), (1, 4, [1]), (21, 201, [1, 446]), (17, 9, [1])], [(1, 4, [1]), (17, 9, [])], [(20, 1, [])]]
abbrev k_m_opened : Nat := 250
def p_m_broke : List Nat := [0, 44, 46, 52, 101, 107, 118, 127, 149, 150]
def b_m_broke : List (List mmOp) := [[(1, 0, [3]), (1, 1, [1]), (21, 204, [0, 453]), (15, 0, [1]), (1, 2, [1]), (7, 0, []), (0, 2, [0]), (0, 2, [9, 505]), (21, 168, [1, 223]), (15, 0, [1]), (1, 3, [1]), (7, 0, []), (0, 2, [-1, 518]), (1, 0, [3]), (21, 197, [0, 395]), (0, 1, [1]), (4, 1, []), (7, 0, []), (21, 168, [1, 223]), (15, 1, [2]), (1, 3, [1]), (0, 1, [20]), (16, 0, [2]), (17, 1, [])], [(0, 1, [-1]), (20, 1, [])], [(0, 1, [0]), (2, 4, [1]), (0, 1, [0]), (2, 5, [1]), (17, 3, [])], [(1, 5, [1]), (1, 0, [3]), (21, 197, [0, 395]), (16, 3, [5]), (1, 0, [3]), (1, 5, [1]), (0, 1, [3]), (21, 214, [0, 398]), (1, 2, [1]), (16, 1, [4]), (1, 0, [3]), (1, 5, [1]), (1, 1, [1]), (21, 237, [0, 481]), (15, 0, [4]), (1, 0, [3]), (1, 5, [1]), (1, 1, [1]), (21, 252, [0, 520]), (15, 0, [4]), (1, 4, [1]), (0, 1, [1]), (1, 5, [1]), (4, 6, []), (4, 4, []), (2, 4, [1]), (17, 4, [])], [(3, 5, [1]), (17, 3, [1])], [(1, 3, [1]), (0, 1, [-1]), (16, 1, [6]), (1, 4, [1]), (21, 201, [1, 446]), (20, 1, [])], [(1, 3, [1]), (0, 1, [20]), (16, 1, [7]), (1, 4, [1]), (20, 1, [])], [(1, 4, [1]), (1, 3, [1]), (4, 7, []), (0, 1, [1]), (4, 3, []), (0, 1, [1]), (16, 1, [8]), (0, 1, [1000]), (1, 4, [1]), (21, 201, [1, 446]), (6, 0, []), (17, 9, [1])], [(0, 1, [0]), (17, 9, [])], [(20, 1, [])]]
abbrev k_m_broke : Nat := 251
def p_m_comesTo : List Nat := [0, 10, 16, 39]
def b_m_comesTo : List (List mmOp) := [[(1, 0, [3]), (1, 1, [1]), (21, 228, [0, 472]), (15, 1, [1]), (0, 1, [0]), (20, 4, [])], [(1, 0, [3]), (1, 1, [1]), (21, 210, [0, 427]), (2, 3, [1]), (17, 2, [])], [(1, 3, [1]), (1, 0, [3]), (1, 1, [1]), (21, 215, [0, 421]), (16, 0, [3]), (1, 0, [3]), (1, 1, [1]), (1, 3, [1]), (21, 231, [0, 475]), (2, 3, [1]), (1, 3, [1]), (1, 2, [1]), (16, 1, [2]), (0, 1, [1]), (20, 4, [])], [(0, 1, [0]), (20, 4, [])]]
abbrev k_m_comesTo : Nat := 252
def p_m_worth : List Nat := [0, 14]
def b_m_worth : List (List mmOp) := [[(1, 0, [3]), (1, 1, [1]), (1, 2, [1]), (21, 211, [0, 523]), (0, 1, [-1]), (16, 1, [1]), (0, 1, [-1000000000, 471]), (20, 1, [])], [(1, 0, [3]), (1, 1, [1]), (1, 2, [1]), (21, 254, [0, 526]), (2, 3, [1]), (1, 3, [1]), (1, 0, [3]), (0, 1, [-1]), (0, 1, [-1]), (21, 254, [0, 526]), (4, 1, []), (20, 1, [])]]
abbrev k_m_worth : Nat := 253
def p_m_coinsAll : List Nat := [0, 5, 50, 53, 61]
def b_m_coinsAll : List (List mmOp) := [[(0, 1, [0]), (2, 3, [1]), (0, 1, [0]), (2, 4, [1]), (17, 1, [])], [(1, 4, [1]), (1, 0, [3]), (21, 197, [0, 395]), (16, 3, [4]), (1, 0, [3]), (1, 4, [1]), (0, 1, [0]), (0, 1, [0]), (0, 1, [31]), (21, 229, [0, 430]), (1, 3, [1]), (1, 0, [3]), (1, 4, [1]), (1, 1, [1]), (1, 2, [1]), (21, 230, [0, 434]), (15, 0, [2]), (1, 0, [3]), (10, 6, [64, 164]), (1, 0, [3]), (1, 4, [1]), (21, 210, [0, 427]), (12, 0, []), (17, 3, [1])], [(0, 1, [1000]), (17, 3, [])], [(4, 0, []), (2, 3, [1]), (3, 4, [1]), (17, 1, [1])], [(1, 3, [1]), (20, 1, [])]]
abbrev k_m_coinsAll : Nat := 254
def p_m_reach : List Nat := [0, 10, 29, 40, 52, 100, 106, 112, 118]
def b_m_reach : List (List mmOp) := [[(1, 0, [3]), (1, 1, [1]), (21, 213, [0, 465]), (15, 1, [1]), (0, 1, [-1]), (20, 1, [])], [(1, 0, [3]), (1, 1, [1]), (0, 1, [0]), (0, 1, [0]), (0, 1, [31]), (21, 229, [0, 430]), (0, 1, [1]), (1, 0, [3]), (1, 1, [1]), (21, 210, [0, 427]), (4, 6, []), (2, 2, [1]), (0, 1, [0]), (2, 3, [1]), (17, 2, [])], [(1, 3, [1]), (1, 0, [3]), (21, 196, [0, 392]), (16, 3, [8]), (0, 1, [0]), (2, 4, [1]), (17, 3, [])], [(1, 4, [1]), (1, 0, [3]), (21, 196, [0, 392]), (16, 3, [7]), (0, 1, [0]), (2, 5, [1]), (17, 4, [])], [(1, 5, [1]), (1, 0, [3]), (21, 196, [0, 392]), (16, 3, [6]), (1, 2, [1]), (1, 4, [1]), (4, 7, []), (0, 1, [1]), (4, 3, []), (0, 1, [1]), (16, 1, [5]), (1, 0, [3]), (10, 6, [62, 157]), (1, 5, [1]), (12, 3, []), (15, 0, [5]), (1, 0, [3]), (1, 1, [1]), (1, 4, [1]), (1, 5, [1]), (21, 226, [0, 424]), (15, 0, [5]), (1, 2, [1]), (0, 1, [1]), (1, 5, [1]), (4, 6, []), (4, 4, []), (2, 2, [1]), (17, 5, [])], [(3, 5, [1]), (17, 4, [1])], [(3, 4, [1]), (17, 3, [1])], [(3, 3, [1]), (17, 2, [1])], [(1, 2, [1]), (20, 1, [])]]
abbrev k_m_reach : Nat := 255
def p_m_leaks : List Nat := [0, 4, 27, 33]
def b_m_leaks : List (List mmOp) := [[(0, 1, [0]), (2, 1, [1]), (0, 1, [0]), (2, 2, [1]), (17, 1, [])], [(1, 2, [1]), (1, 0, [3]), (21, 196, [0, 392]), (16, 3, [3]), (1, 0, [3]), (1, 2, [1]), (21, 199, [0, 413]), (0, 1, [3]), (16, 3, [2]), (1, 1, [1]), (0, 1, [1]), (1, 2, [1]), (4, 6, []), (4, 4, []), (2, 1, [1]), (17, 2, [])], [(3, 2, [1]), (17, 1, [1])], [(1, 1, [1]), (20, 1, [])]]
abbrev k_m_leaks : Nat := 256
def p_m_image : List Nat := [0, 45, 68, 70, 99, 101, 112, 141, 147]
def b_m_image : List (List mmOp) := [[(1, 0, [3]), (0, 1, [0]), (11, 6, [71, 529]), (1, 0, [3]), (1, 0, [3]), (10, 6, [61, 154]), (0, 1, [0]), (12, 0, []), (0, 1, [256]), (6, 0, []), (21, 258, [0, 532]), (1, 0, [3]), (1, 0, [3]), (10, 6, [61, 154]), (0, 1, [0]), (12, 0, []), (0, 1, [256]), (6, 1, []), (21, 258, [0, 532]), (1, 0, [3]), (1, 0, [3]), (10, 6, [61, 154]), (0, 1, [1]), (12, 0, []), (21, 258, [0, 532]), (0, 1, [0]), (2, 1, [1]), (17, 1, [])], [(1, 1, [1]), (1, 0, [3]), (21, 196, [0, 392]), (16, 3, [2]), (1, 0, [3]), (1, 0, [3]), (1, 1, [1]), (21, 199, [0, 413]), (21, 258, [0, 532]), (3, 1, [1]), (17, 1, [1])], [(0, 1, [0]), (2, 1, [1]), (17, 3, [])], [(1, 1, [1]), (0, 1, [2]), (1, 0, [3]), (21, 197, [0, 395]), (4, 2, []), (16, 3, [4]), (1, 0, [3]), (1, 0, [3]), (10, 6, [61, 154]), (0, 1, [12]), (1, 1, [1]), (4, 0, []), (12, 0, []), (21, 258, [0, 532]), (3, 1, [1]), (17, 3, [1])], [(0, 1, [0]), (2, 1, [1]), (17, 5, [])], [(1, 1, [1]), (1, 0, [3]), (21, 195, [0, 437]), (16, 3, [8]), (0, 1, [24]), (2, 2, [1]), (17, 6, [])], [(1, 2, [1]), (15, 2, [7]), (1, 0, [3]), (1, 0, [3]), (10, 6, [61, 154]), (0, 1, [24]), (1, 1, [1]), (4, 0, []), (12, 0, []), (1, 2, [1]), (4, 7, []), (0, 1, [255]), (4, 3, []), (21, 258, [0, 532]), (3, 2, [-8]), (17, 6, [1])], [(3, 1, [1]), (17, 5, [1])], [(1, 0, [3]), (1, 0, [3]), (10, 6, [70, 177]), (1, 0, [3]), (10, 6, [71, 529]), (21, 259, [1, 535]), (21, 258, [0, 532]), (1, 0, [3]), (10, 6, [71, 529]), (20, 1, [])]]
abbrev k_m_image : Nat := 257
def p_m_writes : List Nat := [0]
def b_m_writes : List (List mmOp) := [[(1, 0, [3]), (10, 6, [70, 177]), (1, 0, [3]), (10, 6, [71, 529]), (1, 1, [1]), (13, 0, []), (1, 0, [3]), (9, 0, []), (10, 6, [71, 529]), (0, 1, [1]), (4, 0, []), (11, 6, [71, 529]), (20, 0, [])]]
abbrev k_m_writes : Nat := 258
def p_m_checked : List Nat := [0, 6, 29]
def b_m_checked : List (List mmOp) := [[(0, 1, [131]), (2, 2, [1]), (0, 1, [0]), (2, 3, [1]), (17, 1, [])], [(1, 3, [1]), (1, 1, [1]), (16, 3, [2]), (0, 1, [3]), (1, 2, [1]), (4, 2, []), (1, 0, [3]), (1, 3, [1]), (12, 0, []), (4, 0, []), (0, 1, [253]), (6, 1, []), (2, 2, [1]), (3, 3, [1]), (17, 1, [1])], [(1, 2, [1]), (20, 1, [])]]
abbrev k_m_checked : Nat := 259
def p_m_octet : List Nat := [0, 21, 22]
def b_m_octet : List (List mmOp) := [[(1, 1, [1]), (15, 2, [1]), (1, 1, [1]), (1, 0, [3]), (10, 6, [71, 529]), (16, 3, [1]), (1, 0, [3]), (10, 6, [70, 177]), (1, 1, [1]), (12, 0, []), (17, 2, [1])], [(0, 1, [-1]), (17, 2, [])], [(20, 1, [])]]
abbrev k_m_octet : Nat := 260
def p_m_on : List Nat := [0, 20, 57, 87, 89, 127, 143, 157, 190, 207]
def b_m_on : List (List mmOp) := [[(1, 0, [3]), (10, 6, [1, 180]), (2, 1, [1]), (1, 0, [3]), (0, 1, [0]), (11, 6, [1, 180]), (1, 0, [3]), (1, 1, [1]), (21, 262, [0, 539]), (15, 1, [1]), (0, 1, [0]), (20, 4, [])], [(1, 0, [3]), (10, 6, [61, 154]), (0, 1, [0]), (0, 1, [256]), (1, 0, [3]), (10, 6, [0, 7]), (0, 1, [0]), (12, 0, []), (4, 2, []), (1, 0, [3]), (10, 6, [0, 7]), (0, 1, [1]), (12, 0, []), (4, 0, []), (13, 0, []), (1, 0, [3]), (10, 6, [61, 154]), (0, 1, [1]), (1, 0, [3]), (10, 6, [0, 7]), (0, 1, [2]), (12, 0, []), (13, 0, []), (0, 1, [0]), (2, 2, [1]), (17, 2, [])], [(1, 2, [1]), (1, 0, [3]), (21, 196, [0, 392]), (16, 3, [3]), (1, 0, [3]), (10, 6, [61, 154]), (0, 1, [2]), (1, 2, [1]), (4, 0, []), (1, 0, [3]), (10, 6, [0, 7]), (0, 1, [3]), (1, 2, [1]), (4, 0, []), (12, 0, []), (13, 0, []), (3, 2, [1]), (17, 2, [1])], [(0, 1, [0]), (2, 2, [1]), (17, 4, [])], [(1, 2, [1]), (0, 1, [2]), (1, 0, [3]), (21, 197, [0, 395]), (4, 2, []), (16, 3, [5]), (1, 0, [3]), (10, 6, [61, 154]), (0, 1, [12]), (1, 2, [1]), (4, 0, []), (1, 0, [3]), (10, 6, [0, 7]), (0, 1, [3]), (1, 0, [3]), (21, 196, [0, 392]), (4, 0, []), (1, 2, [1]), (4, 0, []), (12, 0, []), (13, 0, []), (3, 2, [1]), (17, 4, [1])], [(0, 1, [3]), (1, 0, [3]), (21, 196, [0, 392]), (4, 0, []), (0, 1, [2]), (1, 0, [3]), (21, 197, [0, 395]), (4, 2, []), (4, 0, []), (2, 2, [1]), (0, 1, [0]), (2, 3, [1]), (17, 6, [])], [(1, 3, [1]), (1, 0, [3]), (21, 195, [0, 437]), (16, 3, [9]), (0, 1, [0]), (2, 4, [1]), (0, 1, [0]), (2, 5, [1]), (17, 7, [])], [(1, 5, [1]), (0, 1, [4]), (16, 3, [8]), (1, 4, [1]), (0, 1, [8]), (4, 6, []), (1, 0, [3]), (10, 6, [0, 7]), (1, 2, [1]), (0, 1, [4]), (1, 3, [1]), (4, 2, []), (4, 0, []), (1, 5, [1]), (4, 0, []), (12, 0, []), (4, 4, []), (2, 4, [1]), (3, 5, [1]), (17, 7, [1])], [(1, 0, [3]), (10, 6, [61, 154]), (0, 1, [24]), (1, 3, [1]), (4, 0, []), (1, 4, [1]), (13, 0, []), (3, 3, [1]), (17, 6, [1])], [(1, 0, [3]), (10, 6, [61, 154]), (0, 1, [29]), (0, 1, [0]), (13, 0, []), (1, 0, [3]), (0, 1, [0]), (11, 6, [67, 324]), (0, 1, [1]), (20, 4, [])]]
abbrev k_m_on : Nat := 261
def p_m_isTold : List Nat := [0, 81, 83, 85, 108, 114, 116, 188, 202, 204, 210]
def b_m_isTold : List (List mmOp) := [[(0, 1, [4]), (1, 0, [3]), (21, 196, [0, 392]), (4, 0, []), (0, 1, [2]), (1, 0, [3]), (21, 197, [0, 395]), (4, 2, []), (4, 0, []), (0, 1, [4]), (1, 0, [3]), (21, 195, [0, 437]), (4, 2, []), (4, 0, []), (2, 2, [1]), (1, 1, [1]), (1, 2, [1]), (16, 1, [1]), (1, 0, [3]), (10, 6, [0, 7]), (1, 1, [1]), (0, 1, [1]), (4, 1, []), (12, 0, []), (1, 0, [3]), (10, 6, [0, 7]), (1, 1, [1]), (0, 1, [1]), (4, 1, []), (21, 259, [1, 535]), (16, 1, [1]), (0, 1, [256]), (1, 0, [3]), (10, 6, [0, 7]), (0, 1, [0]), (12, 0, []), (4, 2, []), (1, 0, [3]), (10, 6, [0, 7]), (0, 1, [1]), (12, 0, []), (4, 0, []), (0, 1, [999]), (16, 4, [1]), (1, 0, [3]), (10, 6, [0, 7]), (0, 1, [2]), (12, 0, []), (0, 1, [9]), (16, 5, [2]), (17, 1, [])], [(0, 1, [0]), (20, 4, [])], [(0, 1, [0]), (2, 3, [1]), (17, 3, [])], [(1, 3, [1]), (1, 0, [3]), (21, 196, [0, 392]), (16, 3, [5]), (1, 0, [3]), (10, 6, [0, 7]), (0, 1, [3]), (1, 3, [1]), (4, 0, []), (12, 0, []), (0, 1, [30]), (16, 5, [4]), (0, 1, [0]), (20, 4, [])], [(3, 3, [1]), (17, 3, [1])], [(0, 1, [0]), (2, 3, [1]), (17, 6, [])], [(1, 3, [1]), (1, 0, [3]), (21, 197, [0, 395]), (16, 3, [10]), (1, 0, [3]), (10, 6, [0, 7]), (0, 1, [3]), (1, 0, [3]), (21, 196, [0, 392]), (4, 0, []), (0, 1, [2]), (1, 3, [1]), (4, 2, []), (4, 0, []), (12, 0, []), (2, 4, [1]), (1, 0, [3]), (10, 6, [0, 7]), (0, 1, [4]), (1, 0, [3]), (21, 196, [0, 392]), (4, 0, []), (0, 1, [2]), (1, 3, [1]), (4, 2, []), (4, 0, []), (12, 0, []), (2, 5, [1]), (1, 0, [3]), (1, 3, [1]), (0, 1, [4]), (21, 214, [0, 398]), (2, 6, [1]), (1, 0, [3]), (1, 3, [1]), (0, 1, [5]), (21, 214, [0, 398]), (2, 7, [1]), (1, 4, [1]), (1, 6, [1]), (16, 1, [7]), (1, 5, [1]), (1, 7, [1]), (16, 0, [9]), (17, 7, [])], [(1, 4, [1]), (1, 7, [1]), (16, 1, [8]), (1, 5, [1]), (1, 6, [1]), (16, 0, [9]), (17, 8, [])], [(0, 1, [0]), (20, 4, [])], [(3, 3, [1]), (17, 6, [1])], [(0, 1, [1]), (20, 4, [])]]
abbrev k_m_isTold : Nat := 262
def tPL : List (List Nat) := [p_c_init, p_TownText_init, p_Town_init, p_Laws_init, p_Town_clear, p_Laws_clear, p_TownText_packOwnWords, p_Roofs_init, p_Walk_init, p_c_feed, p_c_feedNumber, p_c_end, p_c_town, p_TownText_open, p_TownText_goesOn, p_TownText_skipBlanks, p_TownText_readStatement, p_TownText_wordHere, p_TownText_lettersEnd, p_TownText_sticks, p_TownText_packed, p_TownText_readOwner, p_TownText_beginOneOf, p_TownText_fail, p_TownText_passWord, p_TownText_newName, p_TownText_name, p_Town_knows, p_Town_ownerNamed, p_Town_placeOf, p_Town_lotNamed, p_TownText_refuseNameIf, p_Town_addOwner, p_TownText_readLot, p_TownText_takeWord, p_TownText_ownerByName, p_TownText_number, p_TownText_here, p_TownText_isDigit, p_Town_addLot, p_TownText_readInn, p_TownText_lotByName, p_Town_isLot, p_TownText_readStork, p_TownText_readGap, p_Town_wideOf, p_Town_addGap, p_TownText_readPerson, p_Town_nextPersonRow, p_Town_addPerson, p_TownText_readLaw, p_TownText_sum, p_TownText_product, p_TownText_part, p_Laws_put, p_TownText_mayOpen, p_TownText_takeSign, p_TownText_pair, p_TownText_isFactWord, p_TownText_isHere, p_TownText_test, p_TownText_both, p_TownText_fact, p_TownText_comparison, p_Laws_add, p_TownText_close, p_TownText_handOver, p_Roofs_begin, p_c_fault, p_c_has, p_Town_allLots, p_Roofs_tilesOf, p_Roofs_holes, p_jInteger_bitCount, p_c_letter, p_Town_isOwner, p_Town_isPerson, p_c_lot, p_c_guests, p_c_isFull, p_c_gap, p_c_person, p_Roofs_ledTo, p_c_purse, p_c_toll, p_Walk_tollAt, p_Laws_setPerson, p_Laws_setPlace, p_Laws_due, p_Laws_valueOf, p_Laws_isJoint, p_Laws_joined, p_Laws_single, p_c_step, p_Walk_look, p_Walk_hopsFrom, p_c_way, p_c_findsWay, p_Walk_seek, p_Walk_measureRest, p_Walk_restBy, p_Walk_nextFrom, p_c_leave, p_Town_lotsOf, p_Walk_arrives, p_Walk_reached, p_c_countOrBits, p_c_go, p_c_keepForUndo, p_Roofs_copyFrom, p_c_goFoundWay, p_c_breaksAt, p_Roofs_lead, p_Roofs_forgetOldestLed, p_Roofs_turnBack, p_c_night, p_c_draw, p_c_letRain, p_c_leaks, p_c_patch, p_c_snow, p_c_fire, p_c_burns, p_Town_besides, p_Roofs_takeAllOf, p_c_undo, p_c_seed, p_c_led, p_c_stopped, p_Town_storks, p_c_opened, p_Walk_openIfLaid, p_c_broke, p_c_breakers, p_Walk_comesTo, p_c_odds, p_c_worth, p_Walk_cut, p_c_reach, p_c_image, p_c_shoot, p_c_checkByte, p_c_octet, p_c_on, p_c_isImage, p_Town_goesBetween, p_Roofs_load, p_m_init, p_m_feed, p_m_end, p_m_town, p_m_look, p_m_statementTold, p_m_fail, p_m_takes, p_m_isHere, p_m_isLetter, p_m_ownerTold, p_m_isFull, p_m_newName, p_m_name, p_m_isOwnHere, p_m_nameOf, p_m_lotTold, p_m_asks, p_m_oneOf, p_m_number, p_m_isDigit, p_m_isIn, p_m_innTold, p_m_storkTold, p_m_gapTold, p_m_personTold, p_m_lawTold, p_m_clears, p_m_sumsTold, p_m_onePart, p_m_opens, p_m_asksSign, p_m_takesSign, p_m_code, p_m_goesOn, p_m_mark, p_m_isMark, p_m_dropsToMark, p_m_drops, p_m_isOn, p_m_test, p_m_fact, p_m_dropsNots, p_m_goesOnTest, p_m_hasSquare, p_m_stands, p_m_fault, p_m_has, p_m_ownerMany, p_m_lotMany, p_m_personMany, p_m_tilesAll, p_m_tilesOf, p_m_holes, p_m_bits, p_m_letter, p_m_lot, p_m_isLot, p_m_ownerOf, p_m_heightOf, p_m_bedsOf, p_m_hasStork, p_m_thereAt, p_m_placeOf, p_m_gap, p_m_person, p_m_isPerson, p_m_personOf, p_m_goalOf, p_m_ledTo, p_m_purse, p_m_toll, p_m_tollOf, p_m_told, p_m_puts, p_m_joins, p_m_clip, p_m_floor, p_m_step, p_m_isNear, p_m_way, p_m_hasWay, p_m_comes, p_m_finds, p_m_nextOf, p_m_leave, p_m_undo, p_m_go, p_m_keeps, p_m_walks, p_m_breaks, p_m_leads, p_m_seed, p_m_night, p_m_drawOf, p_m_patch, p_m_snow, p_m_burns, p_m_firesOn, p_m_fire, p_m_led, p_m_stopped, p_m_tilesBy, p_m_opened, p_m_broke, p_m_comesTo, p_m_worth, p_m_coinsAll, p_m_reach, p_m_leaks, p_m_image, p_m_writes, p_m_checked, p_m_octet, p_m_on, p_m_isTold]
def tP (mi : Nat) : List Nat := tPL.getD mi []
def tBlL : List (List (List mmOp)) := [b_c_init, b_TownText_init, b_Town_init, b_Laws_init, b_Town_clear, b_Laws_clear, b_TownText_packOwnWords, b_Roofs_init, b_Walk_init, b_c_feed, b_c_feedNumber, b_c_end, b_c_town, b_TownText_open, b_TownText_goesOn, b_TownText_skipBlanks, b_TownText_readStatement, b_TownText_wordHere, b_TownText_lettersEnd, b_TownText_sticks, b_TownText_packed, b_TownText_readOwner, b_TownText_beginOneOf, b_TownText_fail, b_TownText_passWord, b_TownText_newName, b_TownText_name, b_Town_knows, b_Town_ownerNamed, b_Town_placeOf, b_Town_lotNamed, b_TownText_refuseNameIf, b_Town_addOwner, b_TownText_readLot, b_TownText_takeWord, b_TownText_ownerByName, b_TownText_number, b_TownText_here, b_TownText_isDigit, b_Town_addLot, b_TownText_readInn, b_TownText_lotByName, b_Town_isLot, b_TownText_readStork, b_TownText_readGap, b_Town_wideOf, b_Town_addGap, b_TownText_readPerson, b_Town_nextPersonRow, b_Town_addPerson, b_TownText_readLaw, b_TownText_sum, b_TownText_product, b_TownText_part, b_Laws_put, b_TownText_mayOpen, b_TownText_takeSign, b_TownText_pair, b_TownText_isFactWord, b_TownText_isHere, b_TownText_test, b_TownText_both, b_TownText_fact, b_TownText_comparison, b_Laws_add, b_TownText_close, b_TownText_handOver, b_Roofs_begin, b_c_fault, b_c_has, b_Town_allLots, b_Roofs_tilesOf, b_Roofs_holes, b_jInteger_bitCount, b_c_letter, b_Town_isOwner, b_Town_isPerson, b_c_lot, b_c_guests, b_c_isFull, b_c_gap, b_c_person, b_Roofs_ledTo, b_c_purse, b_c_toll, b_Walk_tollAt, b_Laws_setPerson, b_Laws_setPlace, b_Laws_due, b_Laws_valueOf, b_Laws_isJoint, b_Laws_joined, b_Laws_single, b_c_step, b_Walk_look, b_Walk_hopsFrom, b_c_way, b_c_findsWay, b_Walk_seek, b_Walk_measureRest, b_Walk_restBy, b_Walk_nextFrom, b_c_leave, b_Town_lotsOf, b_Walk_arrives, b_Walk_reached, b_c_countOrBits, b_c_go, b_c_keepForUndo, b_Roofs_copyFrom, b_c_goFoundWay, b_c_breaksAt, b_Roofs_lead, b_Roofs_forgetOldestLed, b_Roofs_turnBack, b_c_night, b_c_draw, b_c_letRain, b_c_leaks, b_c_patch, b_c_snow, b_c_fire, b_c_burns, b_Town_besides, b_Roofs_takeAllOf, b_c_undo, b_c_seed, b_c_led, b_c_stopped, b_Town_storks, b_c_opened, b_Walk_openIfLaid, b_c_broke, b_c_breakers, b_Walk_comesTo, b_c_odds, b_c_worth, b_Walk_cut, b_c_reach, b_c_image, b_c_shoot, b_c_checkByte, b_c_octet, b_c_on, b_c_isImage, b_Town_goesBetween, b_Roofs_load, b_m_init, b_m_feed, b_m_end, b_m_town, b_m_look, b_m_statementTold, b_m_fail, b_m_takes, b_m_isHere, b_m_isLetter, b_m_ownerTold, b_m_isFull, b_m_newName, b_m_name, b_m_isOwnHere, b_m_nameOf, b_m_lotTold, b_m_asks, b_m_oneOf, b_m_number, b_m_isDigit, b_m_isIn, b_m_innTold, b_m_storkTold, b_m_gapTold, b_m_personTold, b_m_lawTold, b_m_clears, b_m_sumsTold, b_m_onePart, b_m_opens, b_m_asksSign, b_m_takesSign, b_m_code, b_m_goesOn, b_m_mark, b_m_isMark, b_m_dropsToMark, b_m_drops, b_m_isOn, b_m_test, b_m_fact, b_m_dropsNots, b_m_goesOnTest, b_m_hasSquare, b_m_stands, b_m_fault, b_m_has, b_m_ownerMany, b_m_lotMany, b_m_personMany, b_m_tilesAll, b_m_tilesOf, b_m_holes, b_m_bits, b_m_letter, b_m_lot, b_m_isLot, b_m_ownerOf, b_m_heightOf, b_m_bedsOf, b_m_hasStork, b_m_thereAt, b_m_placeOf, b_m_gap, b_m_person, b_m_isPerson, b_m_personOf, b_m_goalOf, b_m_ledTo, b_m_purse, b_m_toll, b_m_tollOf, b_m_told, b_m_puts, b_m_joins, b_m_clip, b_m_floor, b_m_step, b_m_isNear, b_m_way, b_m_hasWay, b_m_comes, b_m_finds, b_m_nextOf, b_m_leave, b_m_undo, b_m_go, b_m_keeps, b_m_walks, b_m_breaks, b_m_leads, b_m_seed, b_m_night, b_m_drawOf, b_m_patch, b_m_snow, b_m_burns, b_m_firesOn, b_m_fire, b_m_led, b_m_stopped, b_m_tilesBy, b_m_opened, b_m_broke, b_m_comesTo, b_m_worth, b_m_coinsAll, b_m_reach, b_m_leaks, b_m_image, b_m_writes, b_m_checked, b_m_octet, b_m_on, b_m_isTold]
def tBl (mi : Nat) : List (List mmOp) := tBlL.getD mi []
def p_law : List Nat := [0, 18, 176, 239, 262, 275, 298, 321, 364, 397, 430, 463, 486, 519, 562, 595, 628, 651, 664, 697, 720, 753, 766, 789, 822, 855, 888, 921, 964, 997, 1020, 1033, 1046, 1069, 1082, 1088]
def b_law : List (List mmOp) := [[(22, 0, [0, 7]), (9, 0, []), (21, 0, [2, 9]), (2, 1, [3]), (22, 6, [0, 10]), (9, 0, []), (21, 147, [2, 12]), (2, 2, [3]), (0, 1, [0]), (2, 3, [1]), (17, 1, [])], [(1, 3, [1]), (1, 0, [4]), (28, 0, []), (0, 1, [6]), (4, 1, []), (16, 4, [35]), (1, 0, [4]), (1, 3, [1]), (27, 0, []), (0, 1, [31]), (4, 3, []), (18, 0, [34, 2, 3, 4, 5, 6, 7, 8, 9, 10, 11, 12, 13, 14, 15, 16, 17, 18, 19, 20, 21, 22, 23, 24, 25, 26, 27, 28, 29, 30, 31, 32, 33])], [(1, 1, [3]), (1, 0, [4]), (1, 3, [1]), (0, 1, [1]), (4, 0, []), (27, 0, []), (1, 0, [4]), (1, 3, [1]), (0, 1, [2]), (4, 0, []), (27, 0, []), (1, 0, [4]), (1, 3, [1]), (0, 1, [3]), (4, 0, []), (27, 0, []), (1, 0, [4]), (1, 3, [1]), (0, 1, [4]), (4, 0, []), (27, 0, []), (1, 0, [4]), (1, 3, [1]), (0, 1, [5]), (4, 0, []), (27, 0, []), (21, 9, [0, 13]), (1, 2, [3]), (1, 0, [4]), (1, 3, [1]), (0, 1, [1]), (4, 0, []), (27, 0, []), (1, 0, [4]), (1, 3, [1]), (0, 1, [2]), (4, 0, []), (27, 0, []), (1, 0, [4]), (1, 3, [1]), (0, 1, [3]), (4, 0, []), (27, 0, []), (1, 0, [4]), (1, 3, [1]), (0, 1, [4]), (4, 0, []), (27, 0, []), (1, 0, [4]), (1, 3, [1]), (0, 1, [5]), (4, 0, []), (27, 0, []), (21, 148, [0, 17]), (16, 0, [34]), (0, 1, [0]), (20, 4, [])], [(1, 1, [3]), (1, 0, [4]), (1, 3, [1]), (0, 1, [1]), (4, 0, []), (27, 0, []), (21, 11, [0, 18]), (1, 2, [3]), (1, 0, [4]), (1, 3, [1]), (0, 1, [1]), (4, 0, []), (27, 0, []), (21, 149, [0, 22]), (16, 0, [34]), (0, 1, [0]), (20, 4, [])], [(1, 1, [3]), (21, 12, [0, 23]), (1, 2, [3]), (21, 150, [0, 27]), (16, 0, [34]), (0, 1, [0]), (20, 4, [])], [(1, 1, [3]), (1, 0, [4]), (1, 3, [1]), (0, 1, [1]), (4, 0, []), (27, 0, []), (21, 68, [0, 28]), (1, 2, [3]), (1, 0, [4]), (1, 3, [1]), (0, 1, [1]), (4, 0, []), (27, 0, []), (21, 193, [0, 32]), (16, 0, [34]), (0, 1, [0]), (20, 4, [])], [(1, 1, [3]), (1, 0, [4]), (1, 3, [1]), (0, 1, [1]), (4, 0, []), (27, 0, []), (21, 69, [0, 33]), (1, 2, [3]), (1, 0, [4]), (1, 3, [1]), (0, 1, [1]), (4, 0, []), (27, 0, []), (21, 194, [0, 36]), (16, 0, [34]), (0, 1, [0]), (20, 4, [])], [(1, 1, [3]), (1, 0, [4]), (1, 3, [1]), (0, 1, [1]), (4, 0, []), (27, 0, []), (1, 0, [4]), (1, 3, [1]), (0, 1, [2]), (4, 0, []), (27, 0, []), (1, 0, [4]), (1, 3, [1]), (0, 1, [3]), (4, 0, []), (27, 0, []), (21, 74, [0, 37]), (1, 2, [3]), (1, 0, [4]), (1, 3, [1]), (0, 1, [1]), (4, 0, []), (27, 0, []), (1, 0, [4]), (1, 3, [1]), (0, 1, [2]), (4, 0, []), (27, 0, []), (1, 0, [4]), (1, 3, [1]), (0, 1, [3]), (4, 0, []), (27, 0, []), (21, 202, [0, 41]), (16, 0, [34]), (0, 1, [0]), (20, 4, [])], [(1, 1, [3]), (1, 0, [4]), (1, 3, [1]), (0, 1, [1]), (4, 0, []), (27, 0, []), (1, 0, [4]), (1, 3, [1]), (0, 1, [2]), (4, 0, []), (27, 0, []), (21, 77, [0, 42]), (1, 2, [3]), (1, 0, [4]), (1, 3, [1]), (0, 1, [1]), (4, 0, []), (27, 0, []), (1, 0, [4]), (1, 3, [1]), (0, 1, [2]), (4, 0, []), (27, 0, []), (21, 203, [0, 46]), (16, 0, [34]), (0, 1, [0]), (20, 4, [])], [(1, 1, [3]), (1, 0, [4]), (1, 3, [1]), (0, 1, [1]), (4, 0, []), (27, 0, []), (1, 0, [4]), (1, 3, [1]), (0, 1, [2]), (4, 0, []), (27, 0, []), (21, 80, [0, 47]), (1, 2, [3]), (1, 0, [4]), (1, 3, [1]), (0, 1, [1]), (4, 0, []), (27, 0, []), (1, 0, [4]), (1, 3, [1]), (0, 1, [2]), (4, 0, []), (27, 0, []), (21, 211, [0, 50]), (16, 0, [34]), (0, 1, [0]), (20, 4, [])], [(1, 1, [3]), (1, 0, [4]), (1, 3, [1]), (0, 1, [1]), (4, 0, []), (27, 0, []), (1, 0, [4]), (1, 3, [1]), (0, 1, [2]), (4, 0, []), (27, 0, []), (21, 81, [0, 51]), (1, 2, [3]), (1, 0, [4]), (1, 3, [1]), (0, 1, [1]), (4, 0, []), (27, 0, []), (1, 0, [4]), (1, 3, [1]), (0, 1, [2]), (4, 0, []), (27, 0, []), (21, 212, [0, 54]), (16, 0, [34]), (0, 1, [0]), (20, 4, [])], [(1, 1, [3]), (1, 0, [4]), (1, 3, [1]), (0, 1, [1]), (4, 0, []), (27, 0, []), (21, 83, [0, 55]), (1, 2, [3]), (1, 0, [4]), (1, 3, [1]), (0, 1, [1]), (4, 0, []), (27, 0, []), (21, 217, [0, 58]), (16, 0, [34]), (0, 1, [0]), (20, 4, [])], [(1, 1, [3]), (1, 0, [4]), (1, 3, [1]), (0, 1, [1]), (4, 0, []), (27, 0, []), (1, 0, [4]), (1, 3, [1]), (0, 1, [2]), (4, 0, []), (27, 0, []), (21, 84, [0, 59]), (1, 2, [3]), (1, 0, [4]), (1, 3, [1]), (0, 1, [1]), (4, 0, []), (27, 0, []), (1, 0, [4]), (1, 3, [1]), (0, 1, [2]), (4, 0, []), (27, 0, []), (21, 218, [0, 62]), (16, 0, [34]), (0, 1, [0]), (20, 4, [])], [(1, 1, [3]), (1, 0, [4]), (1, 3, [1]), (0, 1, [1]), (4, 0, []), (27, 0, []), (1, 0, [4]), (1, 3, [1]), (0, 1, [2]), (4, 0, []), (27, 0, []), (1, 0, [4]), (1, 3, [1]), (0, 1, [3]), (4, 0, []), (27, 0, []), (21, 93, [0, 63]), (1, 2, [3]), (1, 0, [4]), (1, 3, [1]), (0, 1, [1]), (4, 0, []), (27, 0, []), (1, 0, [4]), (1, 3, [1]), (0, 1, [2]), (4, 0, []), (27, 0, []), (1, 0, [4]), (1, 3, [1]), (0, 1, [3]), (4, 0, []), (27, 0, []), (21, 225, [0, 66]), (16, 0, [34]), (0, 1, [0]), (20, 4, [])], [(1, 1, [3]), (1, 0, [4]), (1, 3, [1]), (0, 1, [1]), (4, 0, []), (27, 0, []), (1, 0, [4]), (1, 3, [1]), (0, 1, [2]), (4, 0, []), (27, 0, []), (21, 96, [0, 67]), (1, 2, [3]), (1, 0, [4]), (1, 3, [1]), (0, 1, [1]), (4, 0, []), (27, 0, []), (1, 0, [4]), (1, 3, [1]), (0, 1, [2]), (4, 0, []), (27, 0, []), (21, 227, [0, 70]), (16, 0, [34]), (0, 1, [0]), (20, 4, [])], [(1, 1, [3]), (1, 0, [4]), (1, 3, [1]), (0, 1, [1]), (4, 0, []), (27, 0, []), (1, 0, [4]), (1, 3, [1]), (0, 1, [2]), (4, 0, []), (27, 0, []), (21, 102, [0, 71]), (1, 2, [3]), (1, 0, [4]), (1, 3, [1]), (0, 1, [1]), (4, 0, []), (27, 0, []), (1, 0, [4]), (1, 3, [1]), (0, 1, [2]), (4, 0, []), (27, 0, []), (21, 232, [0, 74]), (16, 0, [34]), (0, 1, [0]), (20, 4, [])], [(1, 1, [3]), (1, 0, [4]), (1, 3, [1]), (0, 1, [1]), (4, 0, []), (27, 0, []), (21, 107, [0, 75]), (1, 2, [3]), (1, 0, [4]), (1, 3, [1]), (0, 1, [1]), (4, 0, []), (27, 0, []), (21, 234, [0, 78]), (16, 0, [34]), (0, 1, [0]), (20, 4, [])], [(1, 1, [3]), (21, 115, [0, 79]), (1, 2, [3]), (21, 240, [0, 82]), (16, 0, [34]), (0, 1, [0]), (20, 4, [])], [(1, 1, [3]), (1, 0, [4]), (1, 3, [1]), (0, 1, [1]), (4, 0, []), (27, 0, []), (1, 0, [4]), (1, 3, [1]), (0, 1, [2]), (4, 0, []), (27, 0, []), (21, 119, [0, 83]), (1, 2, [3]), (1, 0, [4]), (1, 3, [1]), (0, 1, [1]), (4, 0, []), (27, 0, []), (1, 0, [4]), (1, 3, [1]), (0, 1, [2]), (4, 0, []), (27, 0, []), (21, 242, [0, 87]), (16, 0, [34]), (0, 1, [0]), (20, 4, [])], [(1, 1, [3]), (1, 0, [4]), (1, 3, [1]), (0, 1, [1]), (4, 0, []), (27, 0, []), (21, 120, [0, 88]), (1, 2, [3]), (1, 0, [4]), (1, 3, [1]), (0, 1, [1]), (4, 0, []), (27, 0, []), (21, 243, [0, 91]), (16, 0, [34]), (0, 1, [0]), (20, 4, [])], [(1, 1, [3]), (1, 0, [4]), (1, 3, [1]), (0, 1, [1]), (4, 0, []), (27, 0, []), (1, 0, [4]), (1, 3, [1]), (0, 1, [2]), (4, 0, []), (27, 0, []), (21, 121, [0, 92]), (1, 2, [3]), (1, 0, [4]), (1, 3, [1]), (0, 1, [1]), (4, 0, []), (27, 0, []), (1, 0, [4]), (1, 3, [1]), (0, 1, [2]), (4, 0, []), (27, 0, []), (21, 246, [0, 95]), (16, 0, [34]), (0, 1, [0]), (20, 4, [])], [(1, 1, [3]), (21, 125, [0, 96]), (1, 2, [3]), (21, 233, [0, 100]), (16, 0, [34]), (0, 1, [0]), (20, 4, [])], [(1, 1, [3]), (1, 0, [4]), (1, 3, [1]), (0, 1, [1]), (4, 0, []), (27, 0, []), (21, 126, [0, 101]), (1, 2, [3]), (1, 0, [4]), (1, 3, [1]), (0, 1, [1]), (4, 0, []), (27, 0, []), (21, 239, [0, 104]), (16, 0, [34]), (0, 1, [0]), (20, 4, [])], [(1, 1, [3]), (1, 0, [4]), (1, 3, [1]), (0, 1, [1]), (4, 0, []), (27, 0, []), (1, 0, [4]), (1, 3, [1]), (0, 1, [2]), (4, 0, []), (27, 0, []), (21, 127, [0, 105]), (1, 2, [3]), (1, 0, [4]), (1, 3, [1]), (0, 1, [1]), (4, 0, []), (27, 0, []), (1, 0, [4]), (1, 3, [1]), (0, 1, [2]), (4, 0, []), (27, 0, []), (21, 247, [0, 108]), (16, 0, [34]), (0, 1, [0]), (20, 4, [])], [(1, 1, [3]), (1, 0, [4]), (1, 3, [1]), (0, 1, [1]), (4, 0, []), (27, 0, []), (1, 0, [4]), (1, 3, [1]), (0, 1, [2]), (4, 0, []), (27, 0, []), (21, 122, [0, 109]), (1, 2, [3]), (1, 0, [4]), (1, 3, [1]), (0, 1, [1]), (4, 0, []), (27, 0, []), (1, 0, [4]), (1, 3, [1]), (0, 1, [2]), (4, 0, []), (27, 0, []), (21, 244, [0, 112]), (16, 0, [34]), (0, 1, [0]), (20, 4, [])], [(1, 1, [3]), (1, 0, [4]), (1, 3, [1]), (0, 1, [1]), (4, 0, []), (27, 0, []), (1, 0, [4]), (1, 3, [1]), (0, 1, [2]), (4, 0, []), (27, 0, []), (21, 128, [0, 113]), (1, 2, [3]), (1, 0, [4]), (1, 3, [1]), (0, 1, [1]), (4, 0, []), (27, 0, []), (1, 0, [4]), (1, 3, [1]), (0, 1, [2]), (4, 0, []), (27, 0, []), (21, 248, [0, 116]), (16, 0, [34]), (0, 1, [0]), (20, 4, [])], [(1, 1, [3]), (1, 0, [4]), (1, 3, [1]), (0, 1, [1]), (4, 0, []), (27, 0, []), (1, 0, [4]), (1, 3, [1]), (0, 1, [2]), (4, 0, []), (27, 0, []), (21, 130, [0, 117]), (1, 2, [3]), (1, 0, [4]), (1, 3, [1]), (0, 1, [1]), (4, 0, []), (27, 0, []), (1, 0, [4]), (1, 3, [1]), (0, 1, [2]), (4, 0, []), (27, 0, []), (21, 250, [0, 120]), (16, 0, [34]), (0, 1, [0]), (20, 4, [])], [(1, 1, [3]), (1, 0, [4]), (1, 3, [1]), (0, 1, [1]), (4, 0, []), (27, 0, []), (1, 0, [4]), (1, 3, [1]), (0, 1, [2]), (4, 0, []), (27, 0, []), (1, 0, [4]), (1, 3, [1]), (0, 1, [3]), (4, 0, []), (27, 0, []), (21, 132, [0, 121]), (1, 2, [3]), (1, 0, [4]), (1, 3, [1]), (0, 1, [1]), (4, 0, []), (27, 0, []), (1, 0, [4]), (1, 3, [1]), (0, 1, [2]), (4, 0, []), (27, 0, []), (1, 0, [4]), (1, 3, [1]), (0, 1, [3]), (4, 0, []), (27, 0, []), (21, 251, [0, 124]), (16, 0, [34]), (0, 1, [0]), (20, 4, [])], [(1, 1, [3]), (1, 0, [4]), (1, 3, [1]), (0, 1, [1]), (4, 0, []), (27, 0, []), (1, 0, [4]), (1, 3, [1]), (0, 1, [2]), (4, 0, []), (27, 0, []), (21, 136, [0, 125]), (1, 2, [3]), (1, 0, [4]), (1, 3, [1]), (0, 1, [1]), (4, 0, []), (27, 0, []), (1, 0, [4]), (1, 3, [1]), (0, 1, [2]), (4, 0, []), (27, 0, []), (21, 253, [0, 128]), (16, 0, [34]), (0, 1, [0]), (20, 4, [])], [(1, 1, [3]), (1, 0, [4]), (1, 3, [1]), (0, 1, [1]), (4, 0, []), (27, 0, []), (21, 138, [0, 129]), (1, 2, [3]), (1, 0, [4]), (1, 3, [1]), (0, 1, [1]), (4, 0, []), (27, 0, []), (21, 255, [0, 132]), (16, 0, [34]), (0, 1, [0]), (20, 4, [])], [(1, 1, [3]), (21, 118, [0, 133]), (1, 2, [3]), (21, 256, [0, 136]), (16, 0, [34]), (0, 1, [0]), (20, 4, [])], [(1, 1, [3]), (21, 139, [0, 137]), (1, 2, [3]), (21, 257, [0, 140]), (16, 0, [34]), (0, 1, [0]), (20, 4, [])], [(1, 1, [3]), (1, 0, [4]), (1, 3, [1]), (0, 1, [1]), (4, 0, []), (27, 0, []), (21, 142, [0, 141]), (1, 2, [3]), (1, 0, [4]), (1, 3, [1]), (0, 1, [1]), (4, 0, []), (27, 0, []), (21, 260, [0, 144]), (16, 0, [34]), (0, 1, [0]), (20, 4, [])], [(1, 1, [3]), (21, 143, [0, 145]), (1, 2, [3]), (21, 261, [0, 148]), (16, 0, [34]), (0, 1, [0]), (20, 4, [])], [(3, 3, [6]), (17, 1, [1])], [(0, 1, [1]), (20, 4, [])]]
/-- with the places of their words -/
def tFl : List (Nat × Nat × Nat × Nat × Nat) := [(0, 9, 0, 0, 469), (0, 16, 0, 2, 471), (0, 23, 0, 3, 472), (0, 30, 0, 4, 473), (0, 34, 0, 5, 474), (0, 41, 0, 9, 478), (0, 45, 0, 10, 479), (0, 48, 0, 8, 477), (0, 52, 0, 1, 470), (0, 73, 1, 0, 348), (0, 84, 0, 7, 476), (0, 87, 1, 1, 350), (0, 90, 2, 0, 226), (0, 93, 2, 1, 231), (0, 96, 2, 2, 234), (0, 99, 2, 3, 238), (0, 102, 2, 12, 265), (0, 106, 3, 0, 173), (0, 111, 2, 4, 241), (0, 114, 2, 5, 244), (0, 117, 4, 0, 389), (0, 120, 4, 1, 392), (0, 139, 4, 2, 394), (0, 146, 2, 6, 247), (0, 152, 2, 7, 249), (0, 158, 2, 8, 251), (0, 161, 2, 9, 255), (0, 165, 4, 3, 397), (0, 174, 4, 4, 400), (0, 181, 2, 10, 260), (0, 184, 4, 5, 403), (0, 190, 4, 6, 405), (0, 202, 5, 6, 442), (0, 205, 5, 3, 436), (0, 210, 5, 4, 438), (0, 213, 5, 5, 440), (0, 216, 5, 8, 446), (0, 237, 5, 7, 444), (0, 268, 0, 6, 475), (0, 280, 4, 7, 407), (0, 308, 0, 11, 480), (1, 9, 1, 2, 351), (1, 18, 1, 7, 356), (1, 22, 1, 8, 357), (1, 25, 1, 1, 349), (1, 50, 1, 3, 352), (1, 55, 1, 4, 353), (1, 58, 1, 6, 355), (1, 61, 1, 0, 347), (1, 106, 2, 4, 242), (1, 109, 2, 5, 245), (1, 116, 2, 0, 227), (1, 129, 2, 1, 232), (1, 149, 2, 9, 256), (1, 156, 2, 2, 235), (1, 166, 2, 3, 239), (1, 176, 2, 12, 266), (1, 180, 3, 0, 174), (1, 185, 3, 1, 176), (1, 235, 1, 5, 354), (2, 9, 2, 6, 246), (2, 15, 2, 7, 248), (2, 18, 2, 8, 250), (2, 23, 2, 9, 252), (2, 26, 2, 10, 257), (2, 29, 2, 11, 261), (2, 35, 2, 12, 263), (2, 42, 2, 0, 224), (2, 46, 2, 1, 229), (2, 49, 2, 2, 233), (2, 52, 2, 3, 236), (2, 55, 2, 4, 240), (2, 58, 2, 5, 243), (3, 9, 3, 2, 177), (3, 15, 3, 3, 178), (3, 18, 3, 4, 179), (3, 21, 3, 5, 180), (3, 24, 3, 6, 181), (3, 27, 3, 7, 182), (3, 30, 3, 0, 172), (3, 34, 3, 1, 175), (3, 37, 3, 8, 183), (3, 40, 3, 9, 184), (3, 43, 3, 10, 185), (3, 46, 3, 11, 186), (3, 49, 3, 12, 187), (4, 9, 4, 3, 395), (4, 15, 4, 4, 398), (4, 18, 4, 5, 401), (4, 21, 4, 6, 404), (4, 26, 4, 7, 406), (4, 29, 4, 0, 387), (4, 33, 4, 1, 390), (4, 36, 4, 2, 393), (4, 39, 2, 1, 230), (4, 44, 2, 9, 253), (4, 47, 2, 3, 237), (4, 50, 2, 10, 258), (4, 53, 2, 0, 225), (5, 9, 5, 6, 441), (5, 15, 5, 7, 443), (5, 18, 5, 8, 445), (5, 21, 5, 9, 447), (5, 24, 2, 1, 228), (5, 30, 5, 0, 432), (5, 31, 4, 4, 399), (5, 36, 5, 1, 433), (5, 39, 4, 5, 402), (5, 42, 5, 2, 434), (5, 45, 5, 3, 435), (5, 48, 4, 3, 396), (5, 55, 4, 1, 391), (5, 62, 2, 12, 264), (5, 66, 2, 10, 259), (5, 76, 2, 9, 254), (5, 79, 4, 0, 388), (5, 90, 2, 11, 262), (5, 100, 5, 4, 437), (5, 103, 5, 5, 439), (6, 7, 6, 0, 1095), (6, 13, 6, 8, 1103), (6, 17, 6, 9, 1104), (6, 21, 6, 10, 1105), (6, 24, 6, 11, 1106), (6, 27, 6, 12, 1107), (6, 30, 6, 13, 1108), (6, 33, 6, 14, 1109), (6, 36, 6, 15, 1110), (6, 39, 6, 16, 1111), (6, 42, 6, 17, 1112), (6, 45, 6, 18, 1113), (6, 48, 6, 19, 1114), (6, 51, 6, 20, 1115), (6, 54, 6, 21, 1116), (6, 57, 6, 22, 1117), (6, 60, 6, 23, 1118), (6, 63, 6, 24, 1119), (6, 66, 6, 25, 1120), (6, 69, 6, 26, 1121), (6, 72, 6, 27, 1122), (6, 75, 6, 28, 1123), (6, 78, 6, 29, 1124), (6, 81, 6, 30, 1125), (6, 84, 6, 31, 1126), (6, 87, 6, 32, 1127), (6, 90, 6, 33, 1128), (6, 93, 6, 34, 1129), (6, 96, 6, 35, 1130), (6, 99, 6, 36, 1131), (6, 102, 6, 37, 1132), (6, 105, 6, 39, 1134), (6, 108, 6, 40, 1135), (6, 112, 6, 41, 1136), (6, 115, 6, 42, 1137), (6, 118, 6, 43, 1138), (6, 121, 6, 44, 1139), (6, 124, 6, 45, 1140), (6, 127, 6, 46, 1141), (6, 130, 6, 47, 1142), (6, 133, 6, 49, 1144), (6, 136, 6, 51, 1146), (6, 139, 6, 54, 1149), (6, 142, 6, 55, 1150), (6, 145, 6, 56, 1151), (6, 148, 6, 58, 1153), (6, 151, 6, 60, 1155), (6, 154, 6, 61, 1156), (6, 157, 6, 62, 1157), (6, 161, 6, 63, 1158), (6, 164, 6, 64, 1159), (6, 167, 6, 65, 1160), (6, 170, 6, 66, 1161), (6, 173, 6, 69, 1164), (6, 177, 6, 70, 1165), (6, 180, 6, 1, 1096), (6, 183, 6, 5, 1100), (6, 186, 6, 6, 1101), (6, 189, 6, 2, 1097), (6, 192, 6, 3, 1098), (6, 203, 6, 4, 1099), (6, 231, 6, 38, 1133), (6, 265, 6, 52, 1147), (6, 268, 6, 53, 1148), (6, 271, 6, 57, 1152), (6, 274, 6, 50, 1145), (6, 286, 6, 48, 1143), (6, 318, 6, 7, 1102), (6, 324, 6, 67, 1162), (6, 370, 6, 59, 1154), (6, 478, 6, 68, 1163), (6, 529, 6, 71, 1166)]
def tMl0 : List (Nat × Nat × Nat × Nat × Nat × Nat × Nat × Nat × Nat) := [(0, 15, 1, 2, 154, 156, 131, 155, 129), (0, 22, 2, 2, 379, 162, 132, 161, 129), (0, 29, 7, 2, 382, 384, 138, 383, 129), (0, 40, 8, 2, 428, 430, 139, 429, 129), (0, 55, 10, 0, 510, 513, 130, 512, 1), (0, 59, 13, 0, 522, 525, 131, 523, 524), (0, 63, 14, 0, 530, 533, 131, 531, 532), (0, 67, 16, 0, 538, 541, 131, 539, 540), (0, 70, 65, 0, 735, 738, 131, 736, 737), (0, 76, 66, 0, 740, 743, 131, 741, 742), (0, 80, 67, 0, 744, 747, 138, 745, 746), (0, 123, 70, 0, 756, 759, 132, 757, 758), (0, 127, 71, 0, 760, 763, 138, 761, 762), (0, 131, 72, 0, 764, 767, 138, 765, 766), (0, 134, 73, 1, 768, 770, 142, 769, 129), (0, 142, 75, 0, 778, 781, 132, 779, 780), (0, 149, 42, 0, 782, 645, 132, 643, 644), (0, 155, 76, 0, 783, 786, 132, 784, 785), (0, 168, 78, 0, 791, 794, 130, 793, 36), (0, 171, 79, 0, 795, 798, 130, 797, 37), (0, 177, 45, 0, 803, 657, 132, 655, 656), (0, 187, 82, 0, 808, 811, 138, 809, 810), (0, 194, 85, 0, 821, 824, 139, 822, 823), (0, 198, 94, 0, 870, 873, 139, 871, 872), (0, 207, 97, 0, 882, 885, 130, 884, 40), (0, 219, 98, 0, 886, 889, 139, 887, 888), (0, 222, 103, 0, 907, 910, 132, 908, 909), (0, 225, 104, 0, 911, 914, 139, 912, 913), (0, 228, 106, 1, 919, 921, 130, 920, 129), (0, 231, 108, 0, 926, 929, 130, 928, 44), (0, 234, 110, 0, 938, 941, 130, 940, 45), (0, 240, 111, 0, 942, 945, 130, 944, 46), (0, 244, 112, 0, 946, 949, 138, 947, 948), (0, 248, 114, 0, 954, 957, 138, 955, 956), (0, 251, 116, 0, 962, 965, 130, 964, 48), (0, 254, 117, 0, 968, 971, 130, 970, 49), (0, 259, 118, 0, 972, 975, 130, 973, 974), (0, 262, 122, 0, 988, 991, 130, 989, 990), (0, 265, 124, 0, 996, 999, 138, 997, 998), (0, 271, 109, 0, 930, 933, 138, 931, 932), (0, 283, 123, 0, 992, 995, 132, 993, 994), (0, 286, 129, 0, 1017, 1020, 132, 1018, 1019), (0, 289, 131, 0, 1025, 1028, 139, 1026, 1027), (0, 293, 133, 0, 1033, 1036, 130, 1035, 50), (0, 296, 135, 1, 1041, 1043, 130, 1042, 129), (0, 299, 134, 0, 1037, 1040, 139, 1038, 1039), (0, 302, 137, 0, 1048, 1051, 139, 1049, 1050), (0, 305, 105, 0, 1056, 918, 139, 916, 917), (0, 311, 140, 0, 1062, 1065, 130, 1064, 51), (0, 314, 141, 1, 1066, 1068, 130, 1067, 129), (0, 318, 144, 0, 1077, 1080, 130, 1079, 52), (0, 321, 146, 0, 1085, 1088, 138, 1086, 1087), (0, 325, 145, 0, 1081, 1084, 132, 1082, 1083), (1, 17, 2, 2, 160, 162, 132, 161, 129), (1, 29, 6, 0, 294, 297, 131, 296, 0), (1, 52, 4, 0, 529, 219, 132, 217, 218), (1, 64, 15, 0, 534, 537, 131, 536, 2), (1, 67, 14, 0, 739, 533, 131, 531, 532), (1, 71, 23, 0, 566, 569, 131, 568, 9), (1, 75, 17, 0, 542, 545, 131, 544, 3)]
def tMl1 : List (Nat × Nat × Nat × Nat × Nat × Nat × Nat × Nat × Nat) := [(1, 78, 21, 0, 558, 561, 131, 560, 7), (1, 81, 33, 0, 605, 608, 131, 607, 14), (1, 84, 40, 0, 633, 636, 131, 635, 19), (1, 87, 43, 0, 646, 649, 131, 648, 21), (1, 90, 44, 0, 650, 653, 131, 652, 22), (1, 93, 47, 0, 663, 666, 131, 665, 23), (1, 96, 50, 0, 676, 679, 131, 678, 24), (1, 100, 24, 0, 570, 573, 131, 572, 10), (1, 103, 36, 0, 618, 621, 131, 620, 17), (1, 112, 56, 0, 700, 703, 131, 702, 29), (1, 119, 22, 0, 562, 565, 131, 564, 8), (1, 122, 25, 0, 574, 577, 131, 576, 11), (1, 125, 32, 0, 601, 604, 132, 602, 603), (1, 132, 34, 0, 609, 612, 131, 611, 15), (1, 135, 35, 0, 613, 616, 131, 615, 16), (1, 138, 39, 0, 629, 632, 132, 630, 631), (1, 142, 41, 0, 637, 640, 131, 639, 20), (1, 145, 42, 0, 642, 645, 132, 643, 644), (1, 153, 31, 0, 597, 600, 131, 599, 13), (1, 159, 45, 0, 654, 657, 132, 655, 656), (1, 162, 46, 0, 659, 662, 132, 660, 661), (1, 169, 48, 0, 667, 670, 132, 668, 669), (1, 173, 49, 0, 672, 675, 132, 673, 674), (1, 186, 51, 0, 680, 683, 131, 682, 25), (1, 189, 60, 0, 715, 718, 131, 717, 32), (1, 192, 64, 0, 731, 734, 133, 732, 733), (1, 195, 61, 0, 719, 722, 131, 721, 33), (1, 198, 54, 0, 692, 695, 133, 693, 694), (1, 201, 62, 0, 723, 726, 131, 725, 34), (1, 204, 55, 0, 696, 699, 131, 698, 28), (1, 207, 37, 0, 622, 625, 131, 624, 18), (1, 210, 63, 0, 727, 730, 131, 729, 35), (1, 213, 52, 0, 684, 687, 131, 686, 26), (1, 216, 59, 0, 711, 714, 131, 713, 31), (1, 220, 53, 0, 688, 691, 131, 690, 27), (1, 223, 38, 1, 626, 628, 131, 627, 129), (1, 226, 57, 0, 704, 707, 131, 706, 30), (1, 229, 58, 1, 708, 710, 131, 709, 129), (1, 232, 18, 0, 546, 549, 131, 548, 4), (1, 238, 19, 0, 550, 553, 131, 552, 5), (1, 241, 20, 0, 554, 557, 131, 556, 6), (1, 244, 26, 0, 578, 581, 131, 580, 12), (1, 247, 27, 0, 582, 585, 132, 583, 584), (1, 250, 28, 0, 617, 589, 132, 587, 588), (1, 254, 30, 0, 641, 596, 132, 594, 595), (2, 34, 3, 2, 168, 170, 133, 169, 129), (2, 39, 4, 0, 216, 219, 132, 217, 218), (2, 61, 5, 0, 220, 223, 133, 221, 222), (2, 62, 29, 1, 590, 592, 132, 591, 129), (2, 66, 28, 0, 586, 589, 132, 587, 588), (2, 70, 30, 0, 593, 596, 132, 594, 595), (2, 73, 42, 0, 658, 645, 132, 643, 644), (3, 52, 89, 0, 837, 840, 133, 839, 38), (3, 64, 90, 1, 841, 843, 133, 842, 129), (3, 68, 91, 1, 844, 846, 133, 845, 129), (3, 81, 92, 0, 858, 861, 133, 860, 39), (4, 62, 113, 0, 950, 953, 138, 952, 47), (5, 51, 85, 0, 874, 824, 139, 822, 823), (5, 58, 95, 1, 875, 877, 139, 876, 129), (5, 70, 86, 0, 825, 828, 133, 826, 827)]
def tMl2 : List (Nat × Nat × Nat × Nat × Nat × Nat × Nat × Nat × Nat) := [(5, 82, 87, 0, 829, 832, 133, 830, 831), (5, 86, 88, 0, 833, 836, 133, 834, 835), (5, 93, 105, 0, 915, 918, 139, 916, 917), (5, 96, 99, 0, 890, 893, 139, 892, 41), (5, 106, 101, 0, 899, 902, 139, 901, 43), (5, 109, 100, 0, 895, 898, 139, 897, 42), (6, 195, 151, 0, 1327, 1330, 140, 1329, 53), (6, 199, 156, 1, 1347, 1349, 140, 1348, 129), (6, 206, 155, 0, 1343, 1346, 140, 1345, 57), (6, 210, 154, 0, 1339, 1342, 140, 1341, 56), (6, 213, 153, 0, 1335, 1338, 140, 1337, 55), (6, 217, 179, 0, 1438, 1441, 140, 1440, 78), (6, 220, 167, 1, 1392, 1394, 140, 1393, 129), (6, 223, 168, 1, 1395, 1397, 140, 1396, 129), (6, 227, 161, 0, 1366, 1369, 140, 1368, 62), (6, 238, 160, 0, 1362, 1365, 140, 1364, 61), (6, 242, 162, 0, 1372, 1375, 140, 1374, 63), (6, 246, 158, 0, 1354, 1357, 140, 1356, 59), (6, 250, 159, 0, 1358, 1361, 140, 1360, 60), (6, 253, 164, 0, 1380, 1383, 140, 1382, 65), (6, 257, 165, 0, 1384, 1387, 140, 1386, 66), (6, 261, 166, 0, 1388, 1391, 140, 1390, 67), (6, 277, 174, 0, 1418, 1421, 140, 1420, 73), (6, 280, 175, 0, 1422, 1425, 140, 1424, 74), (6, 283, 187, 0, 1470, 1473, 140, 1472, 86), (6, 289, 157, 0, 1350, 1353, 140, 1352, 58), (6, 293, 163, 0, 1376, 1379, 140, 1378, 64), (6, 296, 169, 0, 1398, 1401, 140, 1400, 68), (6, 299, 170, 0, 1402, 1405, 140, 1404, 69), (6, 302, 171, 0, 1406, 1409, 140, 1408, 70), (6, 305, 172, 0, 1410, 1413, 140, 1412, 71), (6, 308, 173, 0, 1414, 1417, 140, 1416, 72), (6, 312, 178, 0, 1434, 1437, 140, 1436, 77), (6, 315, 152, 0, 1331, 1334, 140, 1333, 54), (6, 321, 192, 0, 1490, 1493, 140, 1492, 91), (6, 327, 180, 0, 1442, 1445, 140, 1444, 79), (6, 330, 183, 0, 1454, 1457, 140, 1456, 82), (6, 333, 185, 0, 1462, 1465, 140, 1464, 84), (6, 336, 177, 0, 1430, 1433, 140, 1432, 76), (6, 339, 182, 0, 1450, 1453, 140, 1452, 81), (6, 342, 184, 0, 1458, 1461, 140, 1460, 83), (6, 345, 186, 0, 1466, 1469, 140, 1468, 85), (6, 348, 176, 0, 1426, 1429, 140, 1428, 75), (6, 351, 181, 0, 1446, 1449, 140, 1448, 80), (6, 354, 188, 0, 1474, 1477, 140, 1476, 87), (6, 357, 189, 0, 1478, 1481, 140, 1480, 88), (6, 360, 190, 0, 1482, 1485, 140, 1484, 89), (6, 363, 191, 0, 1486, 1489, 140, 1488, 90), (6, 373, 223, 1, 1618, 1620, 140, 1619, 129), (6, 377, 221, 0, 1608, 1611, 140, 1610, 111), (6, 381, 224, 1, 1623, 1625, 140, 1624, 129), (6, 389, 222, 0, 1614, 1617, 140, 1616, 112), (6, 392, 196, 0, 1506, 1509, 140, 1508, 93), (6, 395, 197, 0, 1510, 1513, 140, 1512, 94), (6, 398, 214, 0, 1579, 1582, 140, 1581, 106), (6, 401, 206, 0, 1547, 1550, 140, 1549, 100), (6, 404, 205, 0, 1543, 1546, 140, 1545, 99), (6, 407, 220, 0, 1604, 1607, 140, 1606, 110), (6, 413, 199, 0, 1518, 1521, 140, 1520, 96), (6, 416, 219, 0, 1600, 1603, 140, 1602, 109)]
def tMl3 : List (Nat × Nat × Nat × Nat × Nat × Nat × Nat × Nat × Nat) := [(6, 421, 215, 0, 1583, 1586, 140, 1585, 107), (6, 424, 226, 0, 1631, 1634, 140, 1633, 113), (6, 427, 210, 0, 1563, 1566, 140, 1565, 104), (6, 430, 229, 0, 1643, 1646, 140, 1645, 115), (6, 434, 230, 0, 1647, 1650, 140, 1649, 116), (6, 437, 195, 0, 1502, 1505, 140, 1504, 92), (6, 440, 198, 0, 1514, 1517, 140, 1516, 95), (6, 443, 200, 0, 1522, 1525, 140, 1524, 97), (6, 446, 201, 1, 1526, 1528, 140, 1527, 129), (6, 453, 204, 0, 1539, 1542, 140, 1541, 98), (6, 456, 207, 0, 1551, 1554, 140, 1553, 101), (6, 459, 208, 0, 1555, 1558, 140, 1557, 102), (6, 462, 209, 0, 1559, 1562, 140, 1561, 103), (6, 465, 213, 0, 1575, 1578, 140, 1577, 105), (6, 468, 216, 0, 1587, 1590, 140, 1589, 108), (6, 472, 228, 0, 1639, 1642, 140, 1641, 114), (6, 475, 231, 0, 1652, 1655, 140, 1654, 117), (6, 481, 237, 0, 1676, 1679, 140, 1678, 120), (6, 485, 238, 0, 1680, 1683, 140, 1682, 121), (6, 488, 235, 0, 1668, 1671, 140, 1670, 118), (6, 491, 236, 0, 1672, 1675, 140, 1674, 119), (6, 502, 241, 0, 1692, 1695, 140, 1694, 122), (6, 509, 245, 0, 1714, 1717, 140, 1716, 123), (6, 512, 244, 0, 1722, 1712, 140, 1710, 1711), (6, 515, 249, 0, 1731, 1734, 140, 1733, 124), (6, 520, 252, 0, 1744, 1747, 140, 1746, 125), (6, 523, 211, 0, 1752, 1570, 140, 1568, 1569), (6, 526, 254, 0, 1753, 1756, 140, 1755, 126), (6, 532, 258, 0, 1769, 1772, 140, 1771, 127), (6, 535, 259, 1, 1773, 1775, 140, 1774, 129), (6, 539, 262, 0, 1784, 1787, 140, 1786, 128), (7, 9, 0, 2, 146, 148, 130, 147, 129), (7, 12, 147, 2, 1091, 1093, 140, 1092, 129), (7, 13, 9, 0, 506, 509, 130, 507, 508), (7, 17, 148, 0, 1315, 1318, 140, 1316, 1317), (7, 18, 11, 0, 514, 517, 130, 515, 516), (7, 22, 149, 0, 1319, 1322, 140, 1320, 1321), (7, 23, 12, 0, 518, 521, 130, 519, 520), (7, 27, 150, 0, 1323, 1326, 140, 1324, 1325), (7, 28, 68, 0, 748, 751, 130, 749, 750), (7, 32, 193, 0, 1494, 1497, 140, 1495, 1496), (7, 33, 69, 0, 752, 755, 130, 753, 754), (7, 36, 194, 0, 1498, 1501, 140, 1499, 1500), (7, 37, 74, 0, 774, 777, 130, 775, 776), (7, 41, 202, 0, 1529, 1532, 140, 1530, 1531), (7, 42, 77, 0, 787, 790, 130, 788, 789), (7, 46, 203, 0, 1535, 1538, 140, 1536, 1537), (7, 47, 80, 0, 799, 802, 130, 800, 801), (7, 50, 211, 0, 1567, 1570, 140, 1568, 1569), (7, 51, 81, 0, 804, 807, 130, 805, 806), (7, 54, 212, 0, 1571, 1574, 140, 1572, 1573), (7, 55, 83, 0, 812, 815, 130, 813, 814), (7, 58, 217, 0, 1591, 1594, 140, 1592, 1593), (7, 59, 84, 0, 817, 820, 130, 818, 819), (7, 62, 218, 0, 1596, 1599, 140, 1597, 1598), (7, 63, 93, 0, 866, 869, 130, 867, 868), (7, 66, 225, 0, 1627, 1630, 140, 1628, 1629), (7, 67, 96, 0, 878, 881, 130, 879, 880), (7, 70, 227, 0, 1635, 1638, 140, 1636, 1637), (7, 71, 102, 0, 903, 906, 130, 904, 905)]
def tMl4 : List (Nat × Nat × Nat × Nat × Nat × Nat × Nat × Nat × Nat) := [(7, 74, 232, 0, 1656, 1659, 140, 1657, 1658), (7, 75, 107, 0, 922, 925, 130, 923, 924), (7, 78, 234, 0, 1664, 1667, 140, 1665, 1666), (7, 79, 115, 0, 958, 961, 130, 959, 960), (7, 82, 240, 0, 1688, 1691, 140, 1689, 1690), (7, 83, 119, 0, 976, 979, 130, 977, 978), (7, 87, 242, 0, 1700, 1703, 140, 1701, 1702), (7, 88, 120, 0, 980, 983, 130, 981, 982), (7, 91, 243, 0, 1704, 1707, 140, 1705, 1706), (7, 92, 121, 0, 984, 987, 130, 985, 986), (7, 95, 246, 0, 1718, 1721, 140, 1719, 1720), (7, 96, 125, 0, 1000, 1003, 130, 1001, 1002), (7, 100, 233, 0, 1660, 1663, 140, 1661, 1662), (7, 101, 126, 0, 1004, 1007, 130, 1005, 1006), (7, 104, 239, 0, 1684, 1687, 140, 1685, 1686), (7, 105, 127, 0, 1008, 1011, 130, 1009, 1010), (7, 108, 247, 0, 1723, 1726, 140, 1724, 1725), (7, 109, 122, 0, 1012, 991, 130, 989, 990), (7, 112, 244, 0, 1709, 1712, 140, 1710, 1711), (7, 113, 128, 0, 1013, 1016, 130, 1014, 1015), (7, 116, 248, 0, 1727, 1730, 140, 1728, 1729), (7, 117, 130, 0, 1021, 1024, 130, 1022, 1023), (7, 120, 250, 0, 1735, 1738, 140, 1736, 1737), (7, 121, 132, 0, 1029, 1032, 130, 1030, 1031), (7, 124, 251, 0, 1739, 1742, 140, 1740, 1741), (7, 125, 136, 0, 1044, 1047, 130, 1045, 1046), (7, 128, 253, 0, 1748, 1751, 140, 1749, 1750), (7, 129, 138, 0, 1052, 1055, 130, 1053, 1054), (7, 132, 255, 0, 1757, 1760, 140, 1758, 1759), (7, 133, 118, 0, 1057, 975, 130, 973, 974), (7, 136, 256, 0, 1761, 1764, 140, 1762, 1763), (7, 137, 139, 0, 1058, 1061, 130, 1059, 1060), (7, 140, 257, 0, 1765, 1768, 140, 1766, 1767), (7, 141, 142, 0, 1069, 1072, 130, 1070, 1071), (7, 144, 260, 0, 1776, 1779, 140, 1777, 1778), (7, 145, 143, 0, 1073, 1076, 130, 1074, 1075), (7, 148, 261, 0, 1780, 1783, 140, 1781, 1782)]
def tMl : List (Nat × Nat × Nat × Nat × Nat × Nat × Nat × Nat × Nat) := tMl0 ++ (tMl1 ++ (tMl2 ++ (tMl3 ++ (tMl4))))
def tC1 : List (Nat × Nat × Int × Nat) := [(0, 193, -1000000000, 816), (0, 257, 1103515245, 966), (0, 258, 2147483647, 967), (5, 99, 1000000000, 894), (6, 420, 1000000, 1651), (6, 471, -1000000000, 1595), (8, 265, 1431655765, 771), (8, 266, 858993459, 772), (8, 267, 252645135, 773)]
def tC2 : List (Nat × Nat × Int × Nat) := [(3, 72, -1000000, 856), (3, 74, 1000000, 857), (6, 234, 27, 1370), (6, 236, 97, 1371), (6, 366, 1000000, 1621), (6, 368, -1000000, 1622), (6, 385, 7, 1612), (6, 387, 11, 1613), (6, 411, 999, 1626), (6, 449, 2, 1533), (6, 451, 5, 1534), (6, 494, 1103515245, 1696), (6, 496, 12345, 1697), (6, 498, 2147483648, 1698), (6, 500, 64, 1699), (6, 505, 9, 1708), (6, 507, 20, 1713), (6, 518, -1, 1743)]
def tNw : List (Nat × Nat × Nat × Nat × Nat × Nat) := [(0, 13, 1, 152, 153, 131), (0, 20, 2, 378, 159, 132), (0, 27, 4, 380, 381, 138), (0, 38, 5, 426, 427, 139), (1, 15, 2, 158, 159, 132), (2, 32, 3, 166, 167, 133), (7, 7, 0, 144, 145, 130), (7, 10, 6, 1089, 1090, 140)]
def tOb : List (Nat × Nat × Nat) := [(0, 3, 149), (1, 3, 157), (2, 3, 163), (3, 3, 171), (4, 3, 385), (5, 3, 431), (6, 1, 1094)]
def tCp : List (Nat × Nat × Nat) := [(4, 56, 934)]
def tAn : List (Nat × Nat × Nat) := [(0, 27, 380)]
def tMn : List (Nat × Nat × Nat) := [(2, 21, 164), (4, 24, 386)]
def tTx : List (Nat × Nat) := [(0, 310275), (1, 32), (1, 100034), (1, 200040), (1, 310044), (2, 310077), (3, 300061), (3, 310056), (3, 320079), (3, 330076), (3, 340085)]
def tTb : mmT := (tFl.map (fun e => (e.1, e.2.1, e.2.2.1, e.2.2.2.1)), tMl.map (fun e => (e.1, e.2.1, e.2.2.1, e.2.2.2.1)), tC1.map (fun e => (e.1, e.2.1, e.2.2.1)), tC2.map (fun e => (e.1, e.2.1, e.2.2.1)), tNw.map (fun e => (e.1, e.2.1, e.2.2.1)), tOb.map (fun e => (e.1, e.2.1)), tCp.map (fun e => (e.1, e.2.1)), tAn.map (fun e => (e.1, e.2.1)), tMn.map (fun e => (e.1, e.2.1)), tTx)
def tTW : List Cond := lw_tbl.filter goodWord
def tTx0 : List Int := [111, 119, 110, 101, 114, 32, 108, 111, 116, 32, 111, 102, 32, 104, 101, 105, 103, 104, 116, 32, 116, 105, 108, 101, 115, 32, 105, 110, 110, 32, 98, 101, 100, 115, 32, 115, 116, 111, 114, 107, 32, 103, 97, 112, 32, 119, 105, 100, 101, 32, 112, 101, 114, 115, 111, 110, 32, 119, 101, 105, 103, 104, 116, 32, 108, 101, 97, 112, 32, 99, 108, 105, 109, 98, 32, 104, 101, 101, 108, 32, 97, 116, 32, 116, 111, 32, 116, 111, 108, 108, 32, 98, 97, 114, 32, 119, 104, 101, 110, 32, 99, 97, 114, 114, 121, 32, 114, 97, 105, 110, 32, 110, 105, 103, 104, 116, 32, 111, 114, 32, 97, 110, 100, 32, 110, 111, 116, 32, 97, 108, 108, 32, 109, 105, 110, 32, 109, 97, 120, 32]
end
section
/-! ===== mm: this program's run ===== -/
abbrev rC (d : Nat) : Nat → List Int → mmH → (Int → mmH → Prop) → Prop := mmRC tSh tTg tFc tWn tMp tBl tL tTx0 d
abbrev rB (d mi : Nat) (n0 z0 : Int) (Q : Int → mmH → Prop) : Nat → mmKont := mmWb tSh tTg tFc tMp tTx0 (mmKm tMp (rC d) mi) Q (tWn (tMp mi).2.2.2.2.2) (tBl mi) n0 z0 0 0 0 (fun _ => 0)
theorem rK_mono (d mi : Nat) : ∀ m as h (P P' : Int → mmH → Prop), (∀ x h', P x h' → P' x h') → mmKm tMp (rC d) mi m as h P → mmKm tMp (rC d) mi m as h P' := fun m as h P P' hp z => mmG_mono (mmRC_mono d m as h P P' hp) z
theorem rB_fold {d mi : Nat} {n0 z0 : Int} {Q : Int → mmH → Prop} {cut : Nat → Bool} {f i : Nat} {ls st : List mmV} {h : mmH} (hy : mmEx tSh tTg tFc (tWn (tMp mi).2.2.2.2.2) tMp (mmKm tMp (rC d) mi) Q (mmXn tSh tTg tFc tMp tTx0 (mmKm tMp (rC d) mi) Q (tWn (tMp mi).2.2.2.2.2) (tBl mi) n0 z0 0 0 0 (fun _ => 0) cut f) n0 z0 0 0 0 (fun _ => 0) tTx0 ((tBl mi).getD i []) ls st h) : rB d mi n0 z0 Q i ls st h :=
  mmWb_fold (rK_mono d mi) (mmEx_mono (rK_mono d mi) (fun _ _ y => y) (fun j ls st h z => mmXn_ok (rK_mono d mi) f j ls st h z) _ _ _ _ hy)
theorem rC_intro {d mi : Nat} {as : List Int} {h : mmH} {Q : Int → mmH → Prop} (q : rB d mi (h 0 0) (h 0 1) Q 0 (mmIl (tMp mi).1.reverse as (tL mi)) [] h) : rC (d + 1) mi as h Q := q
theorem rC_mono {d mi : Nat} {as : List Int} {h : mmH} {P P' : Int → mmH → Prop} (q : rC d mi as h P) (hp : ∀ x h', P x h' → P' x h') : rC d mi as h P' := mmRC_mono d mi as h P P' hp q
theorem rC_le {d d' mi : Nat} {as : List Int} {h : mmH} {P : Int → mmH → Prop} (hd : d ≤ d') (q : rC d mi as h P) : rC d' mi as h P := mmRC_le hd q
theorem rB_mono {d mi i : Nat} {n0 z0 : Int} {ls st : List mmV} {h : mmH} {P P' : Int → mmH → Prop} (q : rB d mi n0 z0 P i ls st h) (hp : ∀ x h', P x h' → P' x h') : rB d mi n0 z0 P' i ls st h := mmWb_mono hp (rK_mono d mi) q
/-- the rest of a block, from its i-th op on -/
abbrev rD (d mi : Nat) (n0 z0 : Int) (Q : Int → mmH → Prop) (cut : Nat → Bool) (b i : Nat) : mmKont := mmEx tSh tTg tFc (tWn (tMp mi).2.2.2.2.2) tMp (mmKm tMp (rC d) mi) Q (mmXn tSh tTg tFc tMp tTx0 (mmKm tMp (rC d) mi) Q (tWn (tMp mi).2.2.2.2.2) (tBl mi) n0 z0 0 0 0 (fun _ => 0) cut 40) n0 z0 0 0 0 (fun _ => 0) tTx0 (((tBl mi).getD b []).drop i)
end
section
/-! ===== mm: trees, by program ===== -/
set_option maxRecDepth 100000 in
theorem T5_Town_clear_0 (d : Nat) (n0 z0 : Int) (Q : Int → mmH → Prop) (h : mmH)  (hy : rB d k_Town_clear n0 z0 Q 1 [(3, 5), (1, 0), (0, 0)] [] (mmS (mmS (mmS (mmS (mmS (mmS h 5 0 0) 5 1 0) 5 2 0) 5 3 0) 5 4 5) 5 5 0)) : rB d k_Town_clear n0 z0 Q 0 [(3, 5), (0, 0), (0, 0)] [] h :=
  rB_fold (cut := fun i => Nat.beq i 1 || Nat.beq i 2) (f := 40) hy
set_option maxRecDepth 100000 in
theorem T5_Town_clear_1 (d : Nat) (n0 z0 : Int) (Q : Int → mmH → Prop) (h : mmH) (v1 : Int) (w2 : mmV) (hy : (10 ≤ v1 → rC d k_Laws_clear [38] h (fun x1 h1 => Q 0 h1)) ∧ (¬ (10 ≤ v1) → rB d k_Town_clear n0 z0 Q 2 [(3, 5), (1, v1), (1, 0)] [] h)) : rB d k_Town_clear n0 z0 Q 1 [(3, 5), (1, v1), w2] [] h :=
  rB_fold (cut := fun i => Nat.beq i 1 || Nat.beq i 2) (f := 40) hy
set_option maxRecDepth 100000 in
theorem T5_Town_clear_2 (d : Nat) (n0 z0 : Int) (Q : Int → mmH → Prop) (h : mmH) (v1 : Int) (v2 : Int) (hy : (10 ≤ v2 → rB d k_Town_clear n0 z0 Q 1 [(3, 5), (1, (mAdd v1 1)), (1, v2)] [] h) ∧ (¬ (10 ≤ v2) → mmD ((0 : Int) ≤ v1 ∧ v1 < ((10 : Nat) : Int)) inferInstance (mmG (Nat.beq (tSh ((tFc 27 v1).getD (h 27 v1))).1 100 && (tWn 1 ((tFc 27 v1).getD (h 27 v1)) && (tFc ((tFc 27 v1).getD (h 27 v1)) v2).isNone)) (mmD ((0 : Int) ≤ v2 ∧ v2 < ((tSh ((tFc 27 v1).getD (h 27 v1))).2 : Int)) inferInstance ((fun g1 : mmH => rB d k_Town_clear n0 z0 Q 2 [(3, 5), (1, v1), (1, (mAdd v2 1))] [] g1) (mmS h ((tFc 27 v1).getD (h 27 v1)) v2 (-1))))))) : rB d k_Town_clear n0 z0 Q 2 [(3, 5), (1, v1), (1, v2)] [] h :=
  rB_fold (cut := fun i => Nat.beq i 1 || Nat.beq i 2) (f := 40) hy
set_option maxRecDepth 100000 in
theorem T46_Town_clear_0 (d : Nat) (n0 z0 : Int) (Q : Int → mmH → Prop) (h : mmH)  (hy : rB d k_Town_clear n0 z0 Q 1 [(3, 46), (1, 0), (0, 0)] [] (mmS (mmS (mmS (mmS (mmS (mmS h 46 0 0) 46 1 0) 46 2 0) 46 3 0) 46 4 5) 46 5 0)) : rB d k_Town_clear n0 z0 Q 0 [(3, 46), (0, 0), (0, 0)] [] h :=
  rB_fold (cut := fun i => Nat.beq i 1 || Nat.beq i 2) (f := 40) hy
set_option maxRecDepth 100000 in
theorem T46_Town_clear_1 (d : Nat) (n0 z0 : Int) (Q : Int → mmH → Prop) (h : mmH) (v1 : Int) (w2 : mmV) (hy : (10 ≤ v1 → rC d k_Laws_clear [79] h (fun x1 h1 => Q 0 h1)) ∧ (¬ (10 ≤ v1) → rB d k_Town_clear n0 z0 Q 2 [(3, 46), (1, v1), (1, 0)] [] h)) : rB d k_Town_clear n0 z0 Q 1 [(3, 46), (1, v1), w2] [] h :=
  rB_fold (cut := fun i => Nat.beq i 1 || Nat.beq i 2) (f := 40) hy
set_option maxRecDepth 100000 in
theorem T46_Town_clear_2 (d : Nat) (n0 z0 : Int) (Q : Int → mmH → Prop) (h : mmH) (v1 : Int) (v2 : Int) (hy : (10 ≤ v2 → rB d k_Town_clear n0 z0 Q 1 [(3, 46), (1, (mAdd v1 1)), (1, v2)] [] h) ∧ (¬ (10 ≤ v2) → mmD ((0 : Int) ≤ v1 ∧ v1 < ((10 : Nat) : Int)) inferInstance (mmG (Nat.beq (tSh ((tFc 68 v1).getD (h 68 v1))).1 100 && (tWn 1 ((tFc 68 v1).getD (h 68 v1)) && (tFc ((tFc 68 v1).getD (h 68 v1)) v2).isNone)) (mmD ((0 : Int) ≤ v2 ∧ v2 < ((tSh ((tFc 68 v1).getD (h 68 v1))).2 : Int)) inferInstance ((fun g1 : mmH => rB d k_Town_clear n0 z0 Q 2 [(3, 46), (1, v1), (1, (mAdd v2 1))] [] g1) (mmS h ((tFc 68 v1).getD (h 68 v1)) v2 (-1))))))) : rB d k_Town_clear n0 z0 Q 2 [(3, 46), (1, v1), (1, v2)] [] h :=
  rB_fold (cut := fun i => Nat.beq i 1 || Nat.beq i 2) (f := 40) hy
set_option maxRecDepth 100000 in
theorem T38_Laws_clear_0 (d : Nat) (n0 z0 : Int) (Q : Int → mmH → Prop) (h : mmH)  (hy : Q 0 (mmS (mmS h 38 0 0) 38 1 0)) : rB d k_Laws_clear n0 z0 Q 0 [(3, 38)] [] h :=
  rB_fold (cut := fun i => false) (f := 40) hy
set_option maxRecDepth 100000 in
theorem T79_Laws_clear_0 (d : Nat) (n0 z0 : Int) (Q : Int → mmH → Prop) (h : mmH)  (hy : Q 0 (mmS (mmS h 79 0 0) 79 1 0)) : rB d k_Laws_clear n0 z0 Q 0 [(3, 79)] [] h :=
  rB_fold (cut := fun i => false) (f := 40) hy
set_option maxRecDepth 100000 in
theorem T_c_feed_0 (d : Nat) (n0 z0 : Int) (Q : Int → mmH → Prop) (h : mmH) (a1 : Int) (a2 : Int) (a3 : Int) (a4 : Int) (a5 : Int) (hy : ((mAdd (h 1 1) 20) ≤ 1600 → rC d k_c_feedNumber [1, a1] h (fun x1 h1 => rC d k_c_feedNumber [1, a2] h1 (fun x2 h2 => rC d k_c_feedNumber [1, a3] h2 (fun x3 h3 => rC d k_c_feedNumber [1, a4] h3 (fun x4 h4 => rC d k_c_feedNumber [1, a5] h4 (fun x5 h5 => Q (h5 1 1) h5)))))) ∧ (¬ ((mAdd (h 1 1) 20) ≤ 1600) → Q (-1) h)) : rB d k_c_feed n0 z0 Q 0 [(3, 1), (1, a1), (1, a2), (1, a3), (1, a4), (1, a5)] [] h :=
  rB_fold (cut := fun i => false) (f := 40) hy
set_option maxRecDepth 100000 in
theorem T_c_feedNumber_0 (d : Nat) (n0 z0 : Int) (Q : Int → mmH → Prop) (h : mmH) (a1 : Int) (hy : rB d k_c_feedNumber n0 z0 Q 1 [(3, 1), (1, a1), (1, 24)] [] h) : rB d k_c_feedNumber n0 z0 Q 0 [(3, 1), (1, a1), (0, 0)] [] h :=
  rB_fold (cut := fun i => Nat.beq i 1) (f := 40) hy
set_option maxRecDepth 100000 in
theorem T_c_feedNumber_1 (d : Nat) (n0 z0 : Int) (Q : Int → mmH → Prop) (h : mmH) (v1 : Int) (v2 : Int) (hy : (v2 < 0 → Q 0 h) ∧ (¬ (v2 < 0) → (1600 ≤ (h 1 1) → rB d k_c_feedNumber n0 z0 Q 1 [(3, 1), (1, v1), (1, (mAdd v2 (-8)))] [] h) ∧ (¬ (1600 ≤ (h 1 1)) → mmD ((0 : Int) ≤ (h 1 1) ∧ (h 1 1) < ((1600 : Nat) : Int)) inferInstance (rB d k_c_feedNumber n0 z0 Q 1 [(3, 1), (1, v1), (1, (mAdd v2 (-8)))] [] (mmS (mmS h 2 (h 1 1) (mAnd (mUshr v1 v2) 255)) 1 1 (mAdd (h 1 1) 1)))))) : rB d k_c_feedNumber n0 z0 Q 1 [(3, 1), (1, v1), (1, v2)] [] h :=
  rB_fold (cut := fun i => Nat.beq i 1) (f := 40) hy
set_option maxRecDepth 100000 in
theorem T_c_end_0 (d : Nat) (n0 z0 : Int) (Q : Int → mmH → Prop) (h : mmH) (a1 : Int) (hy : (a1 < 0 → Q 0 h) ∧ (¬ (a1 < 0) → (a1 ≤ (h 1 1) → Q 1 (mmS h 1 1 a1)) ∧ (¬ (a1 ≤ (h 1 1)) → Q 0 h))) : rB d k_c_end n0 z0 Q 0 [(3, 1), (1, a1)] [] h :=
  rB_fold (cut := fun i => false) (f := 40) hy
set_option maxRecDepth 100000 in
theorem T_c_town_0 (d : Nat) (n0 z0 : Int) (Q : Int → mmH → Prop) (h : mmH)  (hy : rC d k_TownText_open [3, 2, (h 1 1)] h (fun x1 h1 => rB d k_c_town n0 z0 Q 1 [(3, 1), (1, 0), (1, 0)] [] (mmS h1 1 1 0))) : rB d k_c_town n0 z0 Q 0 [(3, 1), (0, 0), (0, 0)] [] h :=
  rB_fold (cut := fun i => Nat.beq i 1 || Nat.beq i 2) (f := 40) hy
set_option maxRecDepth 100000 in
theorem T_c_town_1 (d : Nat) (n0 z0 : Int) (Q : Int → mmH → Prop) (h : mmH) (v1 : Int) (v2 : Int) (hy : (80 ≤ v2 → rB d k_c_town n0 z0 Q 2 [(3, 1), (1, v1), (1, v2)] [] h) ∧ (¬ (80 ≤ v2) → rC d k_TownText_goesOn [3] h (fun x1 h1 => (x1 = 0 → rB d k_c_town n0 z0 Q 2 [(3, 1), (1, v1), (1, v2)] [] h1) ∧ (¬ (x1 = 0) → rC d k_TownText_readStatement [3] h1 (fun x2 h2 => rB d k_c_town n0 z0 Q 1 [(3, 1), (1, (mAdd v1 1)), (1, (mAdd v2 1))] [] h2))))) : rB d k_c_town n0 z0 Q 1 [(3, 1), (1, v1), (1, v2)] [] h :=
  rB_fold (cut := fun i => Nat.beq i 1 || Nat.beq i 2) (f := 40) hy
set_option maxRecDepth 100000 in
theorem T_c_town_2 (d : Nat) (n0 z0 : Int) (Q : Int → mmH → Prop) (h : mmH) (v1 : Int) (v2 : Int) (hy : rC d k_TownText_close [3] h (fun x1 h1 => ((h1 3 0) = 0 → rC d k_TownText_handOver [3, (h1 1 3)] h1 (fun x2 h2 => rC d k_Roofs_begin [86, x2] (mmS h2 1 3 x2) (fun x3 h3 => Q v1 (mmS h3 1 7 0)))) ∧ (¬ ((h1 3 0) = 0) → Q (-1) h1))) : rB d k_c_town n0 z0 Q 2 [(3, 1), (1, v1), (1, v2)] [] h :=
  rB_fold (cut := fun i => Nat.beq i 1 || Nat.beq i 2) (f := 40) hy
set_option maxRecDepth 100000 in
theorem T_TownText_open_0 (d : Nat) (n0 z0 : Int) (Q : Int → mmH → Prop) (h : mmH) (a1 : Int) (a2 : Int) (hy : mmG (Nat.ble 100 (tSh a1).1) (mmG (Nat.beq (tSh (h 3 7)).1 2) (rC d k_Town_clear [(h 3 7)] (mmS (mmS h 3 2 a1) 3 3 (mMin a2 ((tSh a1).2 : Int))) (fun x1 h1 => Q 0 (mmS (mmS (mmS (mmS h1 3 4 0) 3 6 (-1)) 3 0 0) 3 1 (-1)))))) : rB d k_TownText_open n0 z0 Q 0 [(3, 3), (3, a1), (1, a2)] [] h :=
  rB_fold (cut := fun i => false) (f := 40) hy
set_option maxRecDepth 100000 in
theorem T_TownText_goesOn_0 (d : Nat) (n0 z0 : Int) (Q : Int → mmH → Prop) (h : mmH)  (hy : rC d k_TownText_skipBlanks [3] h (fun x1 h1 => ((h1 3 0) ≠ 0 → Q 0 h1) ∧ (¬ ((h1 3 0) ≠ 0) → ((h1 3 3) ≤ (h1 3 4) → Q 0 h1) ∧ (¬ ((h1 3 3) ≤ (h1 3 4)) → Q 1 h1)))) : rB d k_TownText_goesOn n0 z0 Q 0 [(3, 3)] [] h :=
  rB_fold (cut := fun i => false) (f := 40) hy
set_option maxRecDepth 100000 in
theorem T_TownText_skipBlanks_0 (d : Nat) (n0 z0 : Int) (Q : Int → mmH → Prop) (h : mmH)  (hy : ((h 3 3) ≤ (h 3 4) → Q 0 h) ∧ (¬ ((h 3 3) ≤ (h 3 4)) → mmG (Nat.beq (tSh (h 3 2)).1 100) (mmD ((0 : Int) ≤ (h 3 4) ∧ (h 3 4) < ((tSh (h 3 2)).2 : Int)) inferInstance ((((tFc (h 3 2) (h 3 4)).getD (h (h 3 2) (h 3 4))) = 32 → rB d k_TownText_skipBlanks n0 z0 Q 0 [(3, 3)] [] (mmS h 3 4 (mAdd (h 3 4) 1))) ∧ (¬ (((tFc (h 3 2) (h 3 4)).getD (h (h 3 2) (h 3 4))) = 32) → mmG (Nat.beq (tSh (h 3 2)).1 100) (mmD ((0 : Int) ≤ (h 3 4) ∧ (h 3 4) < ((tSh (h 3 2)).2 : Int)) inferInstance ((((tFc (h 3 2) (h 3 4)).getD (h (h 3 2) (h 3 4))) ≠ 10 → Q 0 h) ∧ (¬ (((tFc (h 3 2) (h 3 4)).getD (h (h 3 2) (h 3 4))) ≠ 10) → rB d k_TownText_skipBlanks n0 z0 Q 0 [(3, 3)] [] (mmS h 3 4 (mAdd (h 3 4) 1)))))))))) : rB d k_TownText_skipBlanks n0 z0 Q 0 [(3, 3)] [] h :=
  rB_fold (cut := fun i => Nat.beq i 0) (f := 40) hy
set_option maxRecDepth 100000 in
theorem T_TownText_readStatement_0 (d : Nat) (n0 z0 : Int) (Q : Int → mmH → Prop) (h : mmH)  (hy : rC d k_TownText_wordHere [3] h (fun x1 h1 => ((x1 = 0 → rC d k_TownText_readOwner [3] h1 (fun x48 h48 => rC d k_TownText_takeSign [3, 59] h48 (fun x49 h49 => Q 0 h49))) ∧ ((x1 = (0 + 1) → rC d k_TownText_readLot [3] h1 (fun x46 h46 => rC d k_TownText_takeSign [3, 59] h46 (fun x47 h47 => Q 0 h47))) ∧ ((x1 = ((0 + 1) + 1) → rC d k_TownText_fail [3, 1, (h1 3 4)] h1 (fun x44 h44 => rC d k_TownText_takeSign [3, 59] h44 (fun x45 h45 => Q 0 h45))) ∧ ((x1 = (((0 + 1) + 1) + 1) → rC d k_TownText_fail [3, 1, (h1 3 4)] h1 (fun x42 h42 => rC d k_TownText_takeSign [3, 59] h42 (fun x43 h43 => Q 0 h43))) ∧ ((x1 = ((((0 + 1) + 1) + 1) + 1) → rC d k_TownText_fail [3, 1, (h1 3 4)] h1 (fun x40 h40 => rC d k_TownText_takeSign [3, 59] h40 (fun x41 h41 => Q 0 h41))) ∧ ((x1 = (((((0 + 1) + 1) + 1) + 1) + 1) → rC d k_TownText_readInn [3] h1 (fun x38 h38 => rC d k_TownText_takeSign [3, 59] h38 (fun x39 h39 => Q 0 h39))) ∧ ((x1 = ((((((0 + 1) + 1) + 1) + 1) + 1) + 1) → rC d k_TownText_fail [3, 1, (h1 3 4)] h1 (fun x36 h36 => rC d k_TownText_takeSign [3, 59] h36 (fun x37 h37 => Q 0 h37))) ∧ ((x1 = (((((((0 + 1) + 1) + 1) + 1) + 1) + 1) + 1) → rC d k_TownText_readStork [3] h1 (fun x34 h34 => rC d k_TownText_takeSign [3, 59] h34 (fun x35 h35 => Q 0 h35))) ∧ ((x1 = ((((((((0 + 1) + 1) + 1) + 1) + 1) + 1) + 1) + 1) → rC d k_TownText_readGap [3] h1 (fun x32 h32 => rC d k_TownText_takeSign [3, 59] h32 (fun x33 h33 => Q 0 h33))) ∧ ((x1 = (((((((((0 + 1) + 1) + 1) + 1) + 1) + 1) + 1) + 1) + 1) → rC d k_TownText_fail [3, 1, (h1 3 4)] h1 (fun x30 h30 => rC d k_TownText_takeSign [3, 59] h30 (fun x31 h31 => Q 0 h31))) ∧ ((x1 = ((((((((((0 + 1) + 1) + 1) + 1) + 1) + 1) + 1) + 1) + 1) + 1) → rC d k_TownText_readPerson [3] h1 (fun x28 h28 => rC d k_TownText_takeSign [3, 59] h28 (fun x29 h29 => Q 0 h29))) ∧ ((x1 = (((((((((((0 + 1) + 1) + 1) + 1) + 1) + 1) + 1) + 1) + 1) + 1) + 1) → rC d k_TownText_fail [3, 1, (h1 3 4)] h1 (fun x26 h26 => rC d k_TownText_takeSign [3, 59] h26 (fun x27 h27 => Q 0 h27))) ∧ ((x1 = ((((((((((((0 + 1) + 1) + 1) + 1) + 1) + 1) + 1) + 1) + 1) + 1) + 1) + 1) → rC d k_TownText_fail [3, 1, (h1 3 4)] h1 (fun x24 h24 => rC d k_TownText_takeSign [3, 59] h24 (fun x25 h25 => Q 0 h25))) ∧ ((x1 = (((((((((((((0 + 1) + 1) + 1) + 1) + 1) + 1) + 1) + 1) + 1) + 1) + 1) + 1) + 1) → rC d k_TownText_fail [3, 1, (h1 3 4)] h1 (fun x22 h22 => rC d k_TownText_takeSign [3, 59] h22 (fun x23 h23 => Q 0 h23))) ∧ ((x1 = ((((((((((((((0 + 1) + 1) + 1) + 1) + 1) + 1) + 1) + 1) + 1) + 1) + 1) + 1) + 1) + 1) → rC d k_TownText_fail [3, 1, (h1 3 4)] h1 (fun x20 h20 => rC d k_TownText_takeSign [3, 59] h20 (fun x21 h21 => Q 0 h21))) ∧ ((x1 = (((((((((((((((0 + 1) + 1) + 1) + 1) + 1) + 1) + 1) + 1) + 1) + 1) + 1) + 1) + 1) + 1) + 1) → rC d k_TownText_fail [3, 1, (h1 3 4)] h1 (fun x18 h18 => rC d k_TownText_takeSign [3, 59] h18 (fun x19 h19 => Q 0 h19))) ∧ ((x1 = ((((((((((((((((0 + 1) + 1) + 1) + 1) + 1) + 1) + 1) + 1) + 1) + 1) + 1) + 1) + 1) + 1) + 1) + 1) → rC d k_TownText_fail [3, 1, (h1 3 4)] h1 (fun x16 h16 => rC d k_TownText_takeSign [3, 59] h16 (fun x17 h17 => Q 0 h17))) ∧ ((x1 = (((((((((((((((((0 + 1) + 1) + 1) + 1) + 1) + 1) + 1) + 1) + 1) + 1) + 1) + 1) + 1) + 1) + 1) + 1) + 1) → rC d k_TownText_readLaw [3, 1] h1 (fun x14 h14 => rC d k_TownText_takeSign [3, 59] h14 (fun x15 h15 => Q 0 h15))) ∧ ((x1 = ((((((((((((((((((0 + 1) + 1) + 1) + 1) + 1) + 1) + 1) + 1) + 1) + 1) + 1) + 1) + 1) + 1) + 1) + 1) + 1) + 1) → rC d k_TownText_readLaw [3, 0] h1 (fun x12 h12 => rC d k_TownText_takeSign [3, 59] h12 (fun x13 h13 => Q 0 h13))) ∧ ((x1 = (((((((((((((((((((0 + 1) + 1) + 1) + 1) + 1) + 1) + 1) + 1) + 1) + 1) + 1) + 1) + 1) + 1) + 1) + 1) + 1) + 1) + 1) → rC d k_TownText_fail [3, 1, (h1 3 4)] h1 (fun x10 h10 => rC d k_TownText_takeSign [3, 59] h10 (fun x11 h11 => Q 0 h11))) ∧ ((x1 = ((((((((((((((((((((0 + 1) + 1) + 1) + 1) + 1) + 1) + 1) + 1) + 1) + 1) + 1) + 1) + 1) + 1) + 1) + 1) + 1) + 1) + 1) + 1) → rC d k_TownText_passWord [3] h1 (fun x6 h6 => rC d k_TownText_number [3, 1, 20] h6 (fun x7 h7 => mmG (Nat.beq (tSh (h6 3 7)).1 2 && (tWn 1 (h6 3 7) && (tFc (h6 3 7) 4).isNone)) ((fun g8 : mmH => rC d k_TownText_takeSign [3, 59] g8 (fun x9 h9 => Q 0 h9)) (mmS h7 (h6 3 7) 4 x7))))) ∧ ((x1 = (((((((((((((((((((((0 + 1) + 1) + 1) + 1) + 1) + 1) + 1) + 1) + 1) + 1) + 1) + 1) + 1) + 1) + 1) + 1) + 1) + 1) + 1) + 1) + 1) → rC d k_TownText_passWord [3] h1 (fun x2 h2 => rC d k_TownText_number [3, 0, 100] h2 (fun x3 h3 => mmG (Nat.beq (tSh (h2 3 7)).1 2 && (tWn 1 (h2 3 7) && (tFc (h2 3 7) 5).isNone)) ((fun g4 : mmH => rC d k_TownText_takeSign [3, 59] g4 (fun x5 h5 => Q 0 h5)) (mmS h3 (h2 3 7) 5 x3))))) ∧ (True))))))))))))))))))))))) ∧ ((x1 < 0 ∨ 0 + ((22 : Nat) : Int) ≤ x1) → rC d k_TownText_fail [3, 1, (h1 3 4)] h1 (fun x50 h50 => rC d k_TownText_takeSign [3, 59] h50 (fun x51 h51 => Q 0 h51))))) : rB d k_TownText_readStatement n0 z0 Q 0 [(3, 3)] [] h :=
  rB_fold (cut := fun i => false) (f := 40) hy
set_option maxRecDepth 100000 in
theorem T_TownText_wordHere_0 (d : Nat) (n0 z0 : Int) (Q : Int → mmH → Prop) (h : mmH)  (hy : rC d k_TownText_skipBlanks [3] h (fun x1 h1 => rC d k_TownText_lettersEnd [3] h1 (fun x2 h2 => (x2 = (h2 3 4) → Q (-1) h2) ∧ (¬ (x2 = (h2 3 4)) → (6 < (mSub x2 (h2 3 4)) → Q (-1) h2) ∧ (¬ (6 < (mSub x2 (h2 3 4))) → rC d k_TownText_sticks [3] h2 (fun x3 h3 => (x3 = 0 → rC d k_TownText_packed [3, (h3 3 4), x2] h3 (fun x4 h4 => rB d k_TownText_wordHere n0 z0 Q 3 [(3, 3), (1, x2), (1, x4), (1, 0)] [] h4)) ∧ (¬ (x3 = 0) → Q (-1) h3))))))) : rB d k_TownText_wordHere n0 z0 Q 0 [(3, 3), (0, 0), (0, 0), (0, 0)] [] h :=
  rB_fold (cut := fun i => Nat.beq i 3) (f := 40) hy
set_option maxRecDepth 100000 in
theorem T_TownText_wordHere_3 (d : Nat) (n0 z0 : Int) (Q : Int → mmH → Prop) (h : mmH) (v1 : Int) (v2 : Int) (v3 : Int) (hy : (29 ≤ v3 → Q (-1) h) ∧ (¬ (29 ≤ v3) → mmD ((0 : Int) ≤ v3 ∧ v3 < ((29 : Nat) : Int)) inferInstance (((h 45 v3) ≠ v2 → rB d k_TownText_wordHere n0 z0 Q 3 [(3, 3), (1, v1), (1, v2), (1, (mAdd v3 1))] [] h) ∧ (¬ ((h 45 v3) ≠ v2) → Q v3 h)))) : rB d k_TownText_wordHere n0 z0 Q 3 [(3, 3), (1, v1), (1, v2), (1, v3)] [] h :=
  rB_fold (cut := fun i => Nat.beq i 3) (f := 40) hy
set_option maxRecDepth 100000 in
theorem T_TownText_lettersEnd_0 (d : Nat) (n0 z0 : Int) (Q : Int → mmH → Prop) (h : mmH)  (hy : rB d k_TownText_lettersEnd n0 z0 Q 1 [(3, 3), (1, (h 3 4))] [] h) : rB d k_TownText_lettersEnd n0 z0 Q 0 [(3, 3), (0, 0)] [] h :=
  rB_fold (cut := fun i => Nat.beq i 1) (f := 40) hy
set_option maxRecDepth 100000 in
theorem T_TownText_lettersEnd_1 (d : Nat) (n0 z0 : Int) (Q : Int → mmH → Prop) (h : mmH) (v1 : Int) (hy : ((h 3 3) ≤ v1 → Q v1 h) ∧ (¬ ((h 3 3) ≤ v1) → mmG (Nat.beq (tSh (h 3 2)).1 100) (mmD ((0 : Int) ≤ v1 ∧ v1 < ((tSh (h 3 2)).2 : Int)) inferInstance ((((tFc (h 3 2) v1).getD (h (h 3 2) v1)) < 97 → Q v1 h) ∧ (¬ (((tFc (h 3 2) v1).getD (h (h 3 2) v1)) < 97) → mmG (Nat.beq (tSh (h 3 2)).1 100) (mmD ((0 : Int) ≤ v1 ∧ v1 < ((tSh (h 3 2)).2 : Int)) inferInstance ((122 < ((tFc (h 3 2) v1).getD (h (h 3 2) v1)) → Q v1 h) ∧ (¬ (122 < ((tFc (h 3 2) v1).getD (h (h 3 2) v1))) → rB d k_TownText_lettersEnd n0 z0 Q 1 [(3, 3), (1, (mAdd v1 1))] [] h)))))))) : rB d k_TownText_lettersEnd n0 z0 Q 1 [(3, 3), (1, v1)] [] h :=
  rB_fold (cut := fun i => Nat.beq i 1) (f := 40) hy
set_option maxRecDepth 100000 in
theorem T_TownText_sticks_0 (d : Nat) (n0 z0 : Int) (Q : Int → mmH → Prop) (h : mmH)  (hy : ((h 3 4) ≠ (h 3 6) → Q 0 h) ∧ (¬ ((h 3 4) ≠ (h 3 6)) → Q 1 h)) : rB d k_TownText_sticks n0 z0 Q 0 [(3, 3)] [] h :=
  rB_fold (cut := fun i => false) (f := 40) hy
set_option maxRecDepth 100000 in
theorem T_TownText_packed_0 (d : Nat) (n0 z0 : Int) (Q : Int → mmH → Prop) (h : mmH) (a1 : Int) (a2 : Int) (hy : rB d k_TownText_packed n0 z0 Q 1 [(3, 3), (1, a1), (1, a2), (1, 0), (1, a1)] [] h) : rB d k_TownText_packed n0 z0 Q 0 [(3, 3), (1, a1), (1, a2), (0, 0), (0, 0)] [] h :=
  rB_fold (cut := fun i => Nat.beq i 1) (f := 40) hy
set_option maxRecDepth 100000 in
theorem T_TownText_packed_1 (d : Nat) (n0 z0 : Int) (Q : Int → mmH → Prop) (h : mmH) (v1 : Int) (v2 : Int) (v3 : Int) (v4 : Int) (hy : (v2 ≤ v4 → Q v3 h) ∧ (¬ (v2 ≤ v4) → ((h 3 3) ≤ v4 → Q v3 h) ∧ (¬ ((h 3 3) ≤ v4) → mmG (Nat.beq (tSh (h 3 2)).1 100) (mmD ((0 : Int) ≤ v4 ∧ v4 < ((tSh (h 3 2)).2 : Int)) inferInstance (rB d k_TownText_packed n0 z0 Q 1 [(3, 3), (1, v1), (1, v2), (1, (mOr v3 (mShl (mAdd (mSub ((tFc (h 3 2) v4).getD (h (h 3 2) v4)) 97) 1) (mMul 5 (mSub v4 v1))))), (1, (mAdd v4 1))] [] h))))) : rB d k_TownText_packed n0 z0 Q 1 [(3, 3), (1, v1), (1, v2), (1, v3), (1, v4)] [] h :=
  rB_fold (cut := fun i => Nat.beq i 1) (f := 40) hy
set_option maxRecDepth 100000 in
theorem T_TownText_readOwner_0 (d : Nat) (n0 z0 : Int) (Q : Int → mmH → Prop) (h : mmH)  (hy : mmG (Nat.beq (tSh (h 3 7)).1 2) (rC d k_TownText_beginOneOf [3, ((tFc (h 3 7) 0).getD (h (h 3 7) 0)), 5] h (fun x1 h1 => rC d k_TownText_newName [3] h1 (fun x2 h2 => ((h2 3 0) ≠ 0 → Q 0 h2) ∧ (¬ ((h2 3 0) ≠ 0) → mmG (Nat.beq (tSh (h2 3 7)).1 2) (rC d k_Town_addOwner [(h2 3 7), x2] h2 (fun x3 h3 => Q 0 h3))))))) : rB d k_TownText_readOwner n0 z0 Q 0 [(3, 3), (0, 0)] [] h :=
  rB_fold (cut := fun i => false) (f := 40) hy
set_option maxRecDepth 100000 in
theorem T_TownText_beginOneOf_0 (d : Nat) (n0 z0 : Int) (Q : Int → mmH → Prop) (h : mmH) (a1 : Int) (a2 : Int) (hy : (a1 < a2 → rC d k_TownText_passWord [3] h (fun x1 h1 => Q 0 h1)) ∧ (¬ (a1 < a2) → rC d k_TownText_fail [3, 5, (h 3 4)] h (fun x2 h2 => rC d k_TownText_passWord [3] h2 (fun x3 h3 => Q 0 h3)))) : rB d k_TownText_beginOneOf n0 z0 Q 0 [(3, 3), (1, a1), (1, a2)] [] h :=
  rB_fold (cut := fun i => false) (f := 40) hy
set_option maxRecDepth 100000 in
theorem T_TownText_fail_0 (d : Nat) (n0 z0 : Int) (Q : Int → mmH → Prop) (h : mmH) (a1 : Int) (a2 : Int) (hy : ((h 3 0) ≠ 0 → Q 0 h) ∧ (¬ ((h 3 0) ≠ 0) → Q 0 (mmS (mmS h 3 0 a1) 3 1 a2))) : rB d k_TownText_fail n0 z0 Q 0 [(3, 3), (1, a1), (1, a2)] [] h :=
  rB_fold (cut := fun i => false) (f := 40) hy
set_option maxRecDepth 100000 in
theorem T_TownText_passWord_0 (d : Nat) (n0 z0 : Int) (Q : Int → mmH → Prop) (h : mmH)  (hy : rC d k_TownText_lettersEnd [3] h (fun x1 h1 => Q 0 (mmS (mmS h1 3 4 x1) 3 6 x1))) : rB d k_TownText_passWord n0 z0 Q 0 [(3, 3)] [] h :=
  rB_fold (cut := fun i => false) (f := 40) hy
set_option maxRecDepth 100000 in
theorem T_TownText_newName_0 (d : Nat) (n0 z0 : Int) (Q : Int → mmH → Prop) (h : mmH)  (hy : rC d k_TownText_name [3] h (fun x1 h1 => mmG (Nat.beq (tSh (h1 3 7)).1 2) (rC d k_Town_knows [(h1 3 7), x1] h1 (fun x2 h2 => rC d k_TownText_refuseNameIf [3, x2] h2 (fun x3 h3 => Q x1 h3))))) : rB d k_TownText_newName n0 z0 Q 0 [(3, 3), (0, 0)] [] h :=
  rB_fold (cut := fun i => false) (f := 40) hy
set_option maxRecDepth 100000 in
theorem T_TownText_name_0 (d : Nat) (n0 z0 : Int) (Q : Int → mmH → Prop) (h : mmH)  (hy : rC d k_TownText_skipBlanks [3] h (fun x1 h1 => rC d k_TownText_lettersEnd [3] h1 (fun x2 h2 => (x2 = (h2 3 4) → rC d k_TownText_fail [3, 1, (h2 3 4)] (mmS h2 3 5 (h2 3 4)) (fun x3 h3 => Q 0 h3)) ∧ (¬ (x2 = (h2 3 4)) → rC d k_TownText_sticks [3] (mmS h2 3 5 (h2 3 4)) (fun x4 h4 => (x4 = 0 → ((mSub x2 (h4 3 4)) ≤ 6 → rC d k_TownText_wordHere [3] h4 (fun x5 h5 => (x5 = (-1) → rC d k_TownText_packed [3, (h5 3 4), x2] h5 (fun x6 h6 => rC d k_TownText_passWord [3] h6 (fun x7 h7 => Q x6 h7))) ∧ (¬ (x5 = (-1)) → rC d k_TownText_fail [3, 1, (h5 3 4)] h5 (fun x8 h8 => Q 0 h8)))) ∧ (¬ ((mSub x2 (h4 3 4)) ≤ 6) → rC d k_TownText_fail [3, 1, (mAdd (h4 3 4) 6)] h4 (fun x9 h9 => Q 0 h9))) ∧ (¬ (x4 = 0) → rC d k_TownText_fail [3, 1, (h4 3 4)] h4 (fun x10 h10 => Q 0 h10))))))) : rB d k_TownText_name n0 z0 Q 0 [(3, 3), (0, 0), (0, 0)] [] h :=
  rB_fold (cut := fun i => false) (f := 40) hy
set_option maxRecDepth 100000 in
theorem T5_Town_knows_0 (d : Nat) (n0 z0 : Int) (Q : Int → mmH → Prop) (h : mmH) (a1 : Int) (hy : rC d k_Town_ownerNamed [5, a1] h (fun x1 h1 => (x1 ≠ (-1) → Q 1 h1) ∧ (¬ (x1 ≠ (-1)) → rC d k_Town_lotNamed [5, a1] h1 (fun x2 h2 => (x2 ≠ (-1) → Q 1 h2) ∧ (¬ (x2 ≠ (-1)) → rC d k_Town_placeOf [a1, 8, (h2 5 3)] h2 (fun x3 h3 => (x3 = (-1) → Q 0 h3) ∧ (¬ (x3 = (-1)) → Q 1 h3))))))) : rB d k_Town_knows n0 z0 Q 0 [(3, 5), (1, a1)] [] h :=
  rB_fold (cut := fun i => false) (f := 40) hy
set_option maxRecDepth 100000 in
theorem T46_Town_knows_0 (d : Nat) (n0 z0 : Int) (Q : Int → mmH → Prop) (h : mmH) (a1 : Int) (hy : rC d k_Town_ownerNamed [46, a1] h (fun x1 h1 => (x1 ≠ (-1) → Q 1 h1) ∧ (¬ (x1 ≠ (-1)) → rC d k_Town_lotNamed [46, a1] h1 (fun x2 h2 => (x2 ≠ (-1) → Q 1 h2) ∧ (¬ (x2 ≠ (-1)) → rC d k_Town_placeOf [a1, 49, (h2 46 3)] h2 (fun x3 h3 => (x3 = (-1) → Q 0 h3) ∧ (¬ (x3 = (-1)) → Q 1 h3))))))) : rB d k_Town_knows n0 z0 Q 0 [(3, 46), (1, a1)] [] h :=
  rB_fold (cut := fun i => false) (f := 40) hy
set_option maxRecDepth 100000 in
theorem T5_Town_ownerNamed_0 (d : Nat) (n0 z0 : Int) (Q : Int → mmH → Prop) (h : mmH) (a1 : Int) (hy : rC d k_Town_placeOf [a1, 6, (h 5 0)] h (fun x1 h1 => Q x1 h1)) : rB d k_Town_ownerNamed n0 z0 Q 0 [(3, 5), (1, a1)] [] h :=
  rB_fold (cut := fun i => false) (f := 40) hy
set_option maxRecDepth 100000 in
theorem T46_Town_ownerNamed_0 (d : Nat) (n0 z0 : Int) (Q : Int → mmH → Prop) (h : mmH) (a1 : Int) (hy : rC d k_Town_placeOf [a1, 47, (h 46 0)] h (fun x1 h1 => Q x1 h1)) : rB d k_Town_ownerNamed n0 z0 Q 0 [(3, 46), (1, a1)] [] h :=
  rB_fold (cut := fun i => false) (f := 40) hy
set_option maxRecDepth 100000 in
theorem T_Town_placeOf_0 (d : Nat) (n0 z0 : Int) (Q : Int → mmH → Prop) (h : mmH) (a0 : Int) (a1 : Int) (a2 : Int) (hy : rB d k_Town_placeOf n0 z0 Q 1 [(1, a0), (3, a1), (1, a2), (1, 0)] [] h) : rB d k_Town_placeOf n0 z0 Q 0 [(1, a0), (3, a1), (1, a2), (0, 0)] [] h :=
  rB_fold (cut := fun i => Nat.beq i 1) (f := 40) hy
set_option maxRecDepth 100000 in
theorem T_Town_placeOf_1 (d : Nat) (n0 z0 : Int) (Q : Int → mmH → Prop) (h : mmH) (v0 : Int) (v1 : Int) (v2 : Int) (v3 : Int) (hy : (v2 ≤ v3 → Q (-1) h) ∧ (¬ (v2 ≤ v3) → mmG (Nat.ble 100 (tSh v1).1) ((((tSh v1).2 : Int) ≤ v3 → Q (-1) h) ∧ (¬ (((tSh v1).2 : Int) ≤ v3) → mmG (Nat.beq (tSh v1).1 100) (mmD ((0 : Int) ≤ v3 ∧ v3 < ((tSh v1).2 : Int)) inferInstance ((((tFc v1 v3).getD (h v1 v3)) ≠ v0 → rB d k_Town_placeOf n0 z0 Q 1 [(1, v0), (3, v1), (1, v2), (1, (mAdd v3 1))] [] h) ∧ (¬ (((tFc v1 v3).getD (h v1 v3)) ≠ v0) → Q v3 h))))))) : rB d k_Town_placeOf n0 z0 Q 1 [(1, v0), (3, v1), (1, v2), (1, v3)] [] h :=
  rB_fold (cut := fun i => Nat.beq i 1) (f := 40) hy
set_option maxRecDepth 100000 in
theorem T5_Town_lotNamed_0 (d : Nat) (n0 z0 : Int) (Q : Int → mmH → Prop) (h : mmH) (a1 : Int) (hy : rC d k_Town_placeOf [a1, 7, (h 5 1)] h (fun x1 h1 => Q x1 h1)) : rB d k_Town_lotNamed n0 z0 Q 0 [(3, 5), (1, a1)] [] h :=
  rB_fold (cut := fun i => false) (f := 40) hy
set_option maxRecDepth 100000 in
theorem T46_Town_lotNamed_0 (d : Nat) (n0 z0 : Int) (Q : Int → mmH → Prop) (h : mmH) (a1 : Int) (hy : rC d k_Town_placeOf [a1, 48, (h 46 1)] h (fun x1 h1 => Q x1 h1)) : rB d k_Town_lotNamed n0 z0 Q 0 [(3, 46), (1, a1)] [] h :=
  rB_fold (cut := fun i => false) (f := 40) hy
set_option maxRecDepth 100000 in
theorem T_TownText_refuseNameIf_0 (d : Nat) (n0 z0 : Int) (Q : Int → mmH → Prop) (h : mmH) (a1 : Int) (hy : (a1 = 0 → Q 0 h) ∧ (¬ (a1 = 0) → rC d k_TownText_fail [3, 3, (h 3 5)] h (fun x1 h1 => Q 0 h1))) : rB d k_TownText_refuseNameIf n0 z0 Q 0 [(3, 3), (1, a1)] [] h :=
  rB_fold (cut := fun i => false) (f := 40) hy
set_option maxRecDepth 100000 in
theorem T5_Town_addOwner_0 (d : Nat) (n0 z0 : Int) (Q : Int → mmH → Prop) (h : mmH) (a1 : Int) (hy : (5 ≤ (h 5 0) → Q 0 h) ∧ (¬ (5 ≤ (h 5 0)) → mmD ((0 : Int) ≤ (h 5 0) ∧ (h 5 0) < ((5 : Nat) : Int)) inferInstance (Q 0 (mmS (mmS h 6 (h 5 0) a1) 5 0 (mAdd (h 5 0) 1))))) : rB d k_Town_addOwner n0 z0 Q 0 [(3, 5), (1, a1)] [] h :=
  rB_fold (cut := fun i => false) (f := 40) hy
set_option maxRecDepth 100000 in
theorem T46_Town_addOwner_0 (d : Nat) (n0 z0 : Int) (Q : Int → mmH → Prop) (h : mmH) (a1 : Int) (hy : (5 ≤ (h 46 0) → Q 0 h) ∧ (¬ (5 ≤ (h 46 0)) → mmD ((0 : Int) ≤ (h 46 0) ∧ (h 46 0) < ((5 : Nat) : Int)) inferInstance (Q 0 (mmS (mmS h 47 (h 46 0) a1) 46 0 (mAdd (h 46 0) 1))))) : rB d k_Town_addOwner n0 z0 Q 0 [(3, 46), (1, a1)] [] h :=
  rB_fold (cut := fun i => false) (f := 40) hy
set_option maxRecDepth 100000 in
theorem T_TownText_readLot_0 (d : Nat) (n0 z0 : Int) (Q : Int → mmH → Prop) (h : mmH)  (hy : mmG (Nat.beq (tSh (h 3 7)).1 2) (rC d k_TownText_beginOneOf [3, ((tFc (h 3 7) 1).getD (h (h 3 7) 1)), 10] h (fun x1 h1 => rC d k_TownText_newName [3] h1 (fun x2 h2 => rC d k_TownText_takeWord [3, 2] h2 (fun x3 h3 => rC d k_TownText_ownerByName [3] h3 (fun x4 h4 => rD d k_TownText_readLot n0 z0 Q (fun i => false) 0 14 [(3, 3), (1, x2), (0, 0), (0, 0), (0, 0)] [(1, x4)] h4)))))) : rB d k_TownText_readLot n0 z0 Q 0 [(3, 3), (0, 0), (0, 0), (0, 0), (0, 0)] [] h :=
  rB_fold (cut := fun i => false) (f := 40) hy
set_option maxRecDepth 100000 in
theorem T_TownText_readLot_0_14 (d : Nat) (n0 z0 : Int) (Q : Int → mmH → Prop) (h : mmH) (v1 : Int) (s0 : Int) (hy : rC d k_TownText_takeWord [3, 3] h (fun x1 h1 => rC d k_TownText_number [3, 0, 20] h1 (fun x2 h2 => rC d k_TownText_takeWord [3, 4] h2 (fun x3 h3 => rC d k_TownText_number [3, 0, 30] h3 (fun x4 h4 => ((h4 3 0) ≠ 0 → Q 0 h4) ∧ (¬ ((h4 3 0) ≠ 0) → mmG (Nat.beq (tSh (h4 3 7)).1 2) (rC d k_Town_addLot [(h4 3 7), v1, s0, x2, x4] h4 (fun x5 h5 => Q 0 h5)))))))) : rD d k_TownText_readLot n0 z0 Q (fun i => false) 0 14 [(3, 3), (1, v1), (0, 0), (0, 0), (0, 0)] [(1, s0)] h := hy
set_option maxRecDepth 100000 in
theorem T_TownText_takeWord_0 (d : Nat) (n0 z0 : Int) (Q : Int → mmH → Prop) (h : mmH) (a1 : Int) (hy : rC d k_TownText_wordHere [3] h (fun x1 h1 => (x1 ≠ a1 → rC d k_TownText_fail [3, 1, (h1 3 4)] h1 (fun x2 h2 => Q 0 h2)) ∧ (¬ (x1 ≠ a1) → rC d k_TownText_passWord [3] h1 (fun x3 h3 => Q 0 h3)))) : rB d k_TownText_takeWord n0 z0 Q 0 [(3, 3), (1, a1)] [] h :=
  rB_fold (cut := fun i => false) (f := 40) hy
set_option maxRecDepth 100000 in
theorem T_TownText_ownerByName_0 (d : Nat) (n0 z0 : Int) (Q : Int → mmH → Prop) (h : mmH)  (hy : rC d k_TownText_name [3] h (fun x1 h1 => mmG (Nat.beq (tSh (h 3 7)).1 2) (rC d k_Town_ownerNamed [(h 3 7), x1] h1 (fun x2 h2 => (x2 ≠ (-1) → rC d k_TownText_refuseNameIf [3, 0] h2 (fun x3 h3 => Q x2 h3)) ∧ (¬ (x2 ≠ (-1)) → rC d k_TownText_refuseNameIf [3, 1] h2 (fun x4 h4 => Q x2 h4)))))) : rB d k_TownText_ownerByName n0 z0 Q 0 [(3, 3), (0, 0)] [] h :=
  rB_fold (cut := fun i => false) (f := 40) hy
set_option maxRecDepth 100000 in
theorem T_TownText_number_0 (d : Nat) (n0 z0 : Int) (Q : Int → mmH → Prop) (h : mmH) (a1 : Int) (a2 : Int) (hy : rC d k_TownText_skipBlanks [3] h (fun x1 h1 => rC d k_TownText_sticks [3] h1 (fun x2 h2 => rB d k_TownText_number n0 z0 Q 1 [(3, 3), (1, a1), (1, a2), (1, (h1 3 4)), (1, x2), (1, 0), (1, 0)] [] h2))) : rB d k_TownText_number n0 z0 Q 0 [(3, 3), (1, a1), (1, a2), (0, 0), (0, 0), (0, 0), (0, 0)] [] h :=
  rB_fold (cut := fun i => Nat.beq i 1 || Nat.beq i 2) (f := 40) hy
set_option maxRecDepth 100000 in
theorem T_TownText_number_1 (d : Nat) (n0 z0 : Int) (Q : Int → mmH → Prop) (h : mmH) (v1 : Int) (v2 : Int) (v3 : Int) (v4 : Int) (v5 : Int) (v6 : Int) (hy : (4 ≤ v6 → rB d k_TownText_number n0 z0 Q 2 [(3, 3), (1, v1), (1, v2), (1, v3), (1, v4), (1, v5), (1, v6)] [] h) ∧ (¬ (4 ≤ v6) → rC d k_TownText_here [3] h (fun x1 h1 => rC d k_TownText_isDigit [x1] h1 (fun x2 h2 => (x2 = 0 → rB d k_TownText_number n0 z0 Q 2 [(3, 3), (1, v1), (1, v2), (1, v3), (1, v4), (1, v5), (1, v6)] [] h2) ∧ (¬ (x2 = 0) → rC d k_TownText_here [3] h2 (fun x3 h3 => rB d k_TownText_number n0 z0 Q 1 [(3, 3), (1, v1), (1, v2), (1, v3), (1, v4), (1, (mSub (mAdd (mMul 10 v5) x3) 48)), (1, (mAdd v6 1))] [] (mmS h3 3 4 (mAdd (h3 3 4) 1)))))))) : rB d k_TownText_number n0 z0 Q 1 [(3, 3), (1, v1), (1, v2), (1, v3), (1, v4), (1, v5), (1, v6)] [] h :=
  rB_fold (cut := fun i => Nat.beq i 1 || Nat.beq i 2) (f := 40) hy
set_option maxRecDepth 100000 in
theorem T_TownText_number_2 (d : Nat) (n0 z0 : Int) (Q : Int → mmH → Prop) (h : mmH) (v1 : Int) (v2 : Int) (v3 : Int) (v4 : Int) (v5 : Int) (v6 : Int) (hy : ((h 3 4) = v3 → rC d k_TownText_fail [3, 1, v3] (mmS h 3 6 (h 3 4)) (fun x1 h1 => Q v5 h1)) ∧ (¬ ((h 3 4) = v3) → (v4 = 0 → rC d k_TownText_here [3] (mmS h 3 6 (h 3 4)) (fun x2 h2 => rC d k_TownText_isDigit [x2] h2 (fun x3 h3 => (x3 = 0 → (v5 < v1 → rC d k_TownText_fail [3, 2, v3] h3 (fun x4 h4 => Q v5 h4)) ∧ (¬ (v5 < v1) → (v5 ≤ v2 → Q v5 h3) ∧ (¬ (v5 ≤ v2) → rC d k_TownText_fail [3, 2, v3] h3 (fun x5 h5 => Q v5 h5)))) ∧ (¬ (x3 = 0) → rC d k_TownText_fail [3, 1, (h3 3 4)] h3 (fun x6 h6 => Q v5 h6))))) ∧ (¬ (v4 = 0) → rC d k_TownText_fail [3, 1, v3] (mmS h 3 6 (h 3 4)) (fun x7 h7 => Q v5 h7)))) : rB d k_TownText_number n0 z0 Q 2 [(3, 3), (1, v1), (1, v2), (1, v3), (1, v4), (1, v5), (1, v6)] [] h :=
  rB_fold (cut := fun i => Nat.beq i 1 || Nat.beq i 2) (f := 40) hy
set_option maxRecDepth 100000 in
theorem T_TownText_here_0 (d : Nat) (n0 z0 : Int) (Q : Int → mmH → Prop) (h : mmH)  (hy : ((h 3 3) ≤ (h 3 4) → Q (-1) h) ∧ (¬ ((h 3 3) ≤ (h 3 4)) → mmG (Nat.beq (tSh (h 3 2)).1 100) (mmD ((0 : Int) ≤ (h 3 4) ∧ (h 3 4) < ((tSh (h 3 2)).2 : Int)) inferInstance (Q ((tFc (h 3 2) (h 3 4)).getD (h (h 3 2) (h 3 4))) h)))) : rB d k_TownText_here n0 z0 Q 0 [(3, 3)] [] h :=
  rB_fold (cut := fun i => false) (f := 40) hy
set_option maxRecDepth 100000 in
theorem T_TownText_isDigit_0 (d : Nat) (n0 z0 : Int) (Q : Int → mmH → Prop) (h : mmH) (a0 : Int) (hy : (a0 < 48 → Q 0 h) ∧ (¬ (a0 < 48) → (57 < a0 → Q 0 h) ∧ (¬ (57 < a0) → Q 1 h))) : rB d k_TownText_isDigit n0 z0 Q 0 [(1, a0)] [] h :=
  rB_fold (cut := fun i => false) (f := 40) hy
set_option maxRecDepth 100000 in
theorem T5_Town_addLot_0 (d : Nat) (n0 z0 : Int) (Q : Int → mmH → Prop) (h : mmH) (a1 : Int) (a2 : Int) (a3 : Int) (a4 : Int) (hy : (10 ≤ (h 5 1) → Q 0 h) ∧ (¬ (10 ≤ (h 5 1)) → mmD ((0 : Int) ≤ (h 5 1) ∧ (h 5 1) < ((10 : Nat) : Int)) inferInstance (rD d k_Town_addLot n0 z0 Q (fun i => false) 0 10 [(3, 5), (1, a1), (1, a2), (1, a3), (1, a4)] [] (mmS h 7 (h 5 1) a1)))) : rB d k_Town_addLot n0 z0 Q 0 [(3, 5), (1, a1), (1, a2), (1, a3), (1, a4)] [] h :=
  rB_fold (cut := fun i => false) (f := 40) hy
set_option maxRecDepth 100000 in
theorem T5_Town_addLot_0_10 (d : Nat) (n0 z0 : Int) (Q : Int → mmH → Prop) (h : mmH) (v1 : Int) (v2 : Int) (v3 : Int) (v4 : Int) (hy : mmD ((0 : Int) ≤ (h 5 1) ∧ (h 5 1) < ((10 : Nat) : Int)) inferInstance (mmG (Nat.beq (tSh ((tFc 9 (h 5 1)).getD (h 9 (h 5 1)))).1 100 && (tWn 1 ((tFc 9 (h 5 1)).getD (h 9 (h 5 1))) && (tFc ((tFc 9 (h 5 1)).getD (h 9 (h 5 1))) 0).isNone)) (mmD ((0 : Int) ≤ 0 ∧ 0 < ((tSh ((tFc 9 (h 5 1)).getD (h 9 (h 5 1)))).2 : Int)) inferInstance ((fun g1 : mmH => rD d k_Town_addLot n0 z0 Q (fun i => false) 0 18 [(3, 5), (1, v1), (1, v2), (1, v3), (1, v4)] [] g1) (mmS h ((tFc 9 (h 5 1)).getD (h 9 (h 5 1))) 0 v2))))) : rD d k_Town_addLot n0 z0 Q (fun i => false) 0 10 [(3, 5), (1, v1), (1, v2), (1, v3), (1, v4)] [] h := hy
set_option maxRecDepth 100000 in
theorem T5_Town_addLot_0_18 (d : Nat) (n0 z0 : Int) (Q : Int → mmH → Prop) (h : mmH) (v1 : Int) (v2 : Int) (v3 : Int) (v4 : Int) (hy : mmD ((0 : Int) ≤ (h 5 1) ∧ (h 5 1) < ((10 : Nat) : Int)) inferInstance (mmG (Nat.beq (tSh ((tFc 9 (h 5 1)).getD (h 9 (h 5 1)))).1 100 && (tWn 1 ((tFc 9 (h 5 1)).getD (h 9 (h 5 1))) && (tFc ((tFc 9 (h 5 1)).getD (h 9 (h 5 1))) 1).isNone)) (mmD ((0 : Int) ≤ 1 ∧ 1 < ((tSh ((tFc 9 (h 5 1)).getD (h 9 (h 5 1)))).2 : Int)) inferInstance ((fun g1 : mmH => rD d k_Town_addLot n0 z0 Q (fun i => false) 0 26 [(3, 5), (1, v1), (1, v2), (1, v3), (1, v4)] [] g1) (mmS h ((tFc 9 (h 5 1)).getD (h 9 (h 5 1))) 1 v3))))) : rD d k_Town_addLot n0 z0 Q (fun i => false) 0 18 [(3, 5), (1, v1), (1, v2), (1, v3), (1, v4)] [] h := hy
set_option maxRecDepth 100000 in
theorem T5_Town_addLot_0_26 (d : Nat) (n0 z0 : Int) (Q : Int → mmH → Prop) (h : mmH) (v1 : Int) (v2 : Int) (v3 : Int) (v4 : Int) (hy : mmD ((0 : Int) ≤ (h 5 1) ∧ (h 5 1) < ((10 : Nat) : Int)) inferInstance (mmG (Nat.beq (tSh ((tFc 9 (h 5 1)).getD (h 9 (h 5 1)))).1 100 && (tWn 1 ((tFc 9 (h 5 1)).getD (h 9 (h 5 1))) && (tFc ((tFc 9 (h 5 1)).getD (h 9 (h 5 1))) 2).isNone)) (mmD ((0 : Int) ≤ 2 ∧ 2 < ((tSh ((tFc 9 (h 5 1)).getD (h 9 (h 5 1)))).2 : Int)) inferInstance ((fun g1 : mmH => rD d k_Town_addLot n0 z0 Q (fun i => false) 0 34 [(3, 5), (1, v1), (1, v2), (1, v3), (1, v4)] [] g1) (mmS h ((tFc 9 (h 5 1)).getD (h 9 (h 5 1))) 2 v4))))) : rD d k_Town_addLot n0 z0 Q (fun i => false) 0 26 [(3, 5), (1, v1), (1, v2), (1, v3), (1, v4)] [] h := hy
set_option maxRecDepth 100000 in
theorem T5_Town_addLot_0_34 (d : Nat) (n0 z0 : Int) (Q : Int → mmH → Prop) (h : mmH) (v1 : Int) (v2 : Int) (v3 : Int) (v4 : Int) (hy : mmD ((0 : Int) ≤ (h 5 1) ∧ (h 5 1) < ((10 : Nat) : Int)) inferInstance (mmG (Nat.beq (tSh ((tFc 9 (h 5 1)).getD (h 9 (h 5 1)))).1 100 && (tWn 1 ((tFc 9 (h 5 1)).getD (h 9 (h 5 1))) && (tFc ((tFc 9 (h 5 1)).getD (h 9 (h 5 1))) 3).isNone)) (mmD ((0 : Int) ≤ 3 ∧ 3 < ((tSh ((tFc 9 (h 5 1)).getD (h 9 (h 5 1)))).2 : Int)) inferInstance ((fun g1 : mmH => rD d k_Town_addLot n0 z0 Q (fun i => false) 0 42 [(3, 5), (1, v1), (1, v2), (1, v3), (1, v4)] [] g1) (mmS h ((tFc 9 (h 5 1)).getD (h 9 (h 5 1))) 3 0))))) : rD d k_Town_addLot n0 z0 Q (fun i => false) 0 34 [(3, 5), (1, v1), (1, v2), (1, v3), (1, v4)] [] h := hy
set_option maxRecDepth 100000 in
theorem T5_Town_addLot_0_42 (d : Nat) (n0 z0 : Int) (Q : Int → mmH → Prop) (h : mmH) (v1 : Int) (v2 : Int) (v3 : Int) (v4 : Int) (hy : mmD ((0 : Int) ≤ (h 5 1) ∧ (h 5 1) < ((10 : Nat) : Int)) inferInstance (mmG (Nat.beq (tSh ((tFc 9 (h 5 1)).getD (h 9 (h 5 1)))).1 100 && (tWn 1 ((tFc 9 (h 5 1)).getD (h 9 (h 5 1))) && (tFc ((tFc 9 (h 5 1)).getD (h 9 (h 5 1))) 4).isNone)) (mmD ((0 : Int) ≤ 4 ∧ 4 < ((tSh ((tFc 9 (h 5 1)).getD (h 9 (h 5 1)))).2 : Int)) inferInstance ((fun g1 : mmH => Q 0 (mmS g1 5 1 (mAdd (g1 5 1) 1))) (mmS h ((tFc 9 (h 5 1)).getD (h 9 (h 5 1))) 4 0))))) : rD d k_Town_addLot n0 z0 Q (fun i => false) 0 42 [(3, 5), (1, v1), (1, v2), (1, v3), (1, v4)] [] h := hy
set_option maxRecDepth 100000 in
theorem T46_Town_addLot_0 (d : Nat) (n0 z0 : Int) (Q : Int → mmH → Prop) (h : mmH) (a1 : Int) (a2 : Int) (a3 : Int) (a4 : Int) (hy : (10 ≤ (h 46 1) → Q 0 h) ∧ (¬ (10 ≤ (h 46 1)) → mmD ((0 : Int) ≤ (h 46 1) ∧ (h 46 1) < ((10 : Nat) : Int)) inferInstance (rD d k_Town_addLot n0 z0 Q (fun i => false) 0 10 [(3, 46), (1, a1), (1, a2), (1, a3), (1, a4)] [] (mmS h 48 (h 46 1) a1)))) : rB d k_Town_addLot n0 z0 Q 0 [(3, 46), (1, a1), (1, a2), (1, a3), (1, a4)] [] h :=
  rB_fold (cut := fun i => false) (f := 40) hy
set_option maxRecDepth 100000 in
theorem T46_Town_addLot_0_10 (d : Nat) (n0 z0 : Int) (Q : Int → mmH → Prop) (h : mmH) (v1 : Int) (v2 : Int) (v3 : Int) (v4 : Int) (hy : mmD ((0 : Int) ≤ (h 46 1) ∧ (h 46 1) < ((10 : Nat) : Int)) inferInstance (mmG (Nat.beq (tSh ((tFc 50 (h 46 1)).getD (h 50 (h 46 1)))).1 100 && (tWn 1 ((tFc 50 (h 46 1)).getD (h 50 (h 46 1))) && (tFc ((tFc 50 (h 46 1)).getD (h 50 (h 46 1))) 0).isNone)) (mmD ((0 : Int) ≤ 0 ∧ 0 < ((tSh ((tFc 50 (h 46 1)).getD (h 50 (h 46 1)))).2 : Int)) inferInstance ((fun g1 : mmH => rD d k_Town_addLot n0 z0 Q (fun i => false) 0 18 [(3, 46), (1, v1), (1, v2), (1, v3), (1, v4)] [] g1) (mmS h ((tFc 50 (h 46 1)).getD (h 50 (h 46 1))) 0 v2))))) : rD d k_Town_addLot n0 z0 Q (fun i => false) 0 10 [(3, 46), (1, v1), (1, v2), (1, v3), (1, v4)] [] h := hy
set_option maxRecDepth 100000 in
theorem T46_Town_addLot_0_18 (d : Nat) (n0 z0 : Int) (Q : Int → mmH → Prop) (h : mmH) (v1 : Int) (v2 : Int) (v3 : Int) (v4 : Int) (hy : mmD ((0 : Int) ≤ (h 46 1) ∧ (h 46 1) < ((10 : Nat) : Int)) inferInstance (mmG (Nat.beq (tSh ((tFc 50 (h 46 1)).getD (h 50 (h 46 1)))).1 100 && (tWn 1 ((tFc 50 (h 46 1)).getD (h 50 (h 46 1))) && (tFc ((tFc 50 (h 46 1)).getD (h 50 (h 46 1))) 1).isNone)) (mmD ((0 : Int) ≤ 1 ∧ 1 < ((tSh ((tFc 50 (h 46 1)).getD (h 50 (h 46 1)))).2 : Int)) inferInstance ((fun g1 : mmH => rD d k_Town_addLot n0 z0 Q (fun i => false) 0 26 [(3, 46), (1, v1), (1, v2), (1, v3), (1, v4)] [] g1) (mmS h ((tFc 50 (h 46 1)).getD (h 50 (h 46 1))) 1 v3))))) : rD d k_Town_addLot n0 z0 Q (fun i => false) 0 18 [(3, 46), (1, v1), (1, v2), (1, v3), (1, v4)] [] h := hy
set_option maxRecDepth 100000 in
theorem T46_Town_addLot_0_26 (d : Nat) (n0 z0 : Int) (Q : Int → mmH → Prop) (h : mmH) (v1 : Int) (v2 : Int) (v3 : Int) (v4 : Int) (hy : mmD ((0 : Int) ≤ (h 46 1) ∧ (h 46 1) < ((10 : Nat) : Int)) inferInstance (mmG (Nat.beq (tSh ((tFc 50 (h 46 1)).getD (h 50 (h 46 1)))).1 100 && (tWn 1 ((tFc 50 (h 46 1)).getD (h 50 (h 46 1))) && (tFc ((tFc 50 (h 46 1)).getD (h 50 (h 46 1))) 2).isNone)) (mmD ((0 : Int) ≤ 2 ∧ 2 < ((tSh ((tFc 50 (h 46 1)).getD (h 50 (h 46 1)))).2 : Int)) inferInstance ((fun g1 : mmH => rD d k_Town_addLot n0 z0 Q (fun i => false) 0 34 [(3, 46), (1, v1), (1, v2), (1, v3), (1, v4)] [] g1) (mmS h ((tFc 50 (h 46 1)).getD (h 50 (h 46 1))) 2 v4))))) : rD d k_Town_addLot n0 z0 Q (fun i => false) 0 26 [(3, 46), (1, v1), (1, v2), (1, v3), (1, v4)] [] h := hy
set_option maxRecDepth 100000 in
theorem T46_Town_addLot_0_34 (d : Nat) (n0 z0 : Int) (Q : Int → mmH → Prop) (h : mmH) (v1 : Int) (v2 : Int) (v3 : Int) (v4 : Int) (hy : mmD ((0 : Int) ≤ (h 46 1) ∧ (h 46 1) < ((10 : Nat) : Int)) inferInstance (mmG (Nat.beq (tSh ((tFc 50 (h 46 1)).getD (h 50 (h 46 1)))).1 100 && (tWn 1 ((tFc 50 (h 46 1)).getD (h 50 (h 46 1))) && (tFc ((tFc 50 (h 46 1)).getD (h 50 (h 46 1))) 3).isNone)) (mmD ((0 : Int) ≤ 3 ∧ 3 < ((tSh ((tFc 50 (h 46 1)).getD (h 50 (h 46 1)))).2 : Int)) inferInstance ((fun g1 : mmH => rD d k_Town_addLot n0 z0 Q (fun i => false) 0 42 [(3, 46), (1, v1), (1, v2), (1, v3), (1, v4)] [] g1) (mmS h ((tFc 50 (h 46 1)).getD (h 50 (h 46 1))) 3 0))))) : rD d k_Town_addLot n0 z0 Q (fun i => false) 0 34 [(3, 46), (1, v1), (1, v2), (1, v3), (1, v4)] [] h := hy
set_option maxRecDepth 100000 in
theorem T46_Town_addLot_0_42 (d : Nat) (n0 z0 : Int) (Q : Int → mmH → Prop) (h : mmH) (v1 : Int) (v2 : Int) (v3 : Int) (v4 : Int) (hy : mmD ((0 : Int) ≤ (h 46 1) ∧ (h 46 1) < ((10 : Nat) : Int)) inferInstance (mmG (Nat.beq (tSh ((tFc 50 (h 46 1)).getD (h 50 (h 46 1)))).1 100 && (tWn 1 ((tFc 50 (h 46 1)).getD (h 50 (h 46 1))) && (tFc ((tFc 50 (h 46 1)).getD (h 50 (h 46 1))) 4).isNone)) (mmD ((0 : Int) ≤ 4 ∧ 4 < ((tSh ((tFc 50 (h 46 1)).getD (h 50 (h 46 1)))).2 : Int)) inferInstance ((fun g1 : mmH => Q 0 (mmS g1 46 1 (mAdd (g1 46 1) 1))) (mmS h ((tFc 50 (h 46 1)).getD (h 50 (h 46 1))) 4 0))))) : rD d k_Town_addLot n0 z0 Q (fun i => false) 0 42 [(3, 46), (1, v1), (1, v2), (1, v3), (1, v4)] [] h := hy
set_option maxRecDepth 100000 in
theorem T_TownText_readInn_0 (d : Nat) (n0 z0 : Int) (Q : Int → mmH → Prop) (h : mmH)  (hy : rC d k_TownText_passWord [3] h (fun x1 h1 => rC d k_TownText_lotByName [3] h1 (fun x2 h2 => mmG (Nat.beq (tSh (h2 3 7)).1 2) (rC d k_Town_isLot [(h2 3 7), x2] h2 (fun x3 h3 => (x3 = 0 → rB d k_TownText_readInn n0 z0 Q 2 [(3, 3), (1, x2), (0, 0)] [(1, 0), (3, 3)] h3) ∧ (¬ (x3 = 0) → mmG (Nat.beq (tSh (h3 3 7)).1 2) (mmG (Nat.beq (tSh ((tFc (h3 3 7) 9).getD (h3 (h3 3 7) 9))).1 104) (mmD ((0 : Int) ≤ x2 ∧ x2 < ((tSh ((tFc (h3 3 7) 9).getD (h3 (h3 3 7) 9))).2 : Int)) inferInstance (mmG (Nat.beq (tSh ((tFc ((tFc (h3 3 7) 9).getD (h3 (h3 3 7) 9)) x2).getD (h3 ((tFc (h3 3 7) 9).getD (h3 (h3 3 7) 9)) x2))).1 100) (mmD ((0 : Int) ≤ 3 ∧ 3 < ((tSh ((tFc ((tFc (h3 3 7) 9).getD (h3 (h3 3 7) 9)) x2).getD (h3 ((tFc (h3 3 7) 9).getD (h3 (h3 3 7) 9)) x2))).2 : Int)) inferInstance ((((tFc ((tFc ((tFc (h3 3 7) 9).getD (h3 (h3 3 7) 9)) x2).getD (h3 ((tFc (h3 3 7) 9).getD (h3 (h3 3 7) 9)) x2)) 3).getD (h3 ((tFc ((tFc (h3 3 7) 9).getD (h3 (h3 3 7) 9)) x2).getD (h3 ((tFc (h3 3 7) 9).getD (h3 (h3 3 7) 9)) x2)) 3)) = 0 → rB d k_TownText_readInn n0 z0 Q 2 [(3, 3), (1, x2), (0, 0)] [(1, 0), (3, 3)] h3) ∧ (¬ (((tFc ((tFc ((tFc (h3 3 7) 9).getD (h3 (h3 3 7) 9)) x2).getD (h3 ((tFc (h3 3 7) 9).getD (h3 (h3 3 7) 9)) x2)) 3).getD (h3 ((tFc ((tFc (h3 3 7) 9).getD (h3 (h3 3 7) 9)) x2).getD (h3 ((tFc (h3 3 7) 9).getD (h3 (h3 3 7) 9)) x2)) 3)) = 0) → rB d k_TownText_readInn n0 z0 Q 2 [(3, 3), (1, x2), (0, 0)] [(1, 1), (3, 3)] h3)))))))))))) : rB d k_TownText_readInn n0 z0 Q 0 [(3, 3), (0, 0), (0, 0)] [] h :=
  rB_fold (cut := fun i => Nat.beq i 2) (f := 40) hy
set_option maxRecDepth 100000 in
theorem T_TownText_readInn_2 (d : Nat) (n0 z0 : Int) (Q : Int → mmH → Prop) (h : mmH) (v1 : Int) (s0 : Int) (s1 : Int) (hy : mmG (Nat.beq (tSh s1).1 1) (rC d k_TownText_refuseNameIf [s1, s0] h (fun x1 h1 => rC d k_TownText_takeWord [3, 6] h1 (fun x2 h2 => rC d k_TownText_number [3, 1, 9] h2 (fun x3 h3 => ((h3 3 0) ≠ 0 → Q 0 h3) ∧ (¬ ((h3 3 0) ≠ 0) → mmG (Nat.beq (tSh (h3 3 7)).1 2) (rC d k_Town_isLot [(h3 3 7), v1] h3 (fun x4 h4 => (x4 = 0 → Q 0 h4) ∧ (¬ (x4 = 0) → mmG (Nat.beq (tSh (h4 3 7)).1 2) (mmG (Nat.beq (tSh ((tFc (h4 3 7) 9).getD (h4 (h4 3 7) 9))).1 104) (mmD ((0 : Int) ≤ v1 ∧ v1 < ((tSh ((tFc (h4 3 7) 9).getD (h4 (h4 3 7) 9))).2 : Int)) inferInstance (mmG (Nat.beq (tSh ((tFc ((tFc (h4 3 7) 9).getD (h4 (h4 3 7) 9)) v1).getD (h4 ((tFc (h4 3 7) 9).getD (h4 (h4 3 7) 9)) v1))).1 100 && (tWn 1 ((tFc ((tFc (h4 3 7) 9).getD (h4 (h4 3 7) 9)) v1).getD (h4 ((tFc (h4 3 7) 9).getD (h4 (h4 3 7) 9)) v1)) && (tFc ((tFc ((tFc (h4 3 7) 9).getD (h4 (h4 3 7) 9)) v1).getD (h4 ((tFc (h4 3 7) 9).getD (h4 (h4 3 7) 9)) v1)) 3).isNone)) (mmD ((0 : Int) ≤ 3 ∧ 3 < ((tSh ((tFc ((tFc (h4 3 7) 9).getD (h4 (h4 3 7) 9)) v1).getD (h4 ((tFc (h4 3 7) 9).getD (h4 (h4 3 7) 9)) v1))).2 : Int)) inferInstance ((fun g5 : mmH => Q 0 g5) (mmS h4 ((tFc ((tFc (h4 3 7) 9).getD (h4 (h4 3 7) 9)) v1).getD (h4 ((tFc (h4 3 7) 9).getD (h4 (h4 3 7) 9)) v1)) 3 x3))))))))))))))) : rB d k_TownText_readInn n0 z0 Q 2 [(3, 3), (1, v1), (0, 0)] [(1, s0), (3, s1)] h :=
  rB_fold (cut := fun i => Nat.beq i 2) (f := 40) hy
set_option maxRecDepth 100000 in
theorem T_TownText_lotByName_0 (d : Nat) (n0 z0 : Int) (Q : Int → mmH → Prop) (h : mmH)  (hy : rC d k_TownText_name [3] h (fun x1 h1 => mmG (Nat.beq (tSh (h 3 7)).1 2) (rC d k_Town_lotNamed [(h 3 7), x1] h1 (fun x2 h2 => (x2 ≠ (-1) → rC d k_TownText_refuseNameIf [3, 0] h2 (fun x3 h3 => Q x2 h3)) ∧ (¬ (x2 ≠ (-1)) → rC d k_TownText_refuseNameIf [3, 1] h2 (fun x4 h4 => Q x2 h4)))))) : rB d k_TownText_lotByName n0 z0 Q 0 [(3, 3), (0, 0)] [] h :=
  rB_fold (cut := fun i => false) (f := 40) hy
set_option maxRecDepth 100000 in
theorem T5_Town_isLot_0 (d : Nat) (n0 z0 : Int) (Q : Int → mmH → Prop) (h : mmH) (a1 : Int) (hy : (a1 < 0 → Q 0 h) ∧ (¬ (a1 < 0) → ((h 5 1) ≤ a1 → Q 0 h) ∧ (¬ ((h 5 1) ≤ a1) → Q 1 h))) : rB d k_Town_isLot n0 z0 Q 0 [(3, 5), (1, a1)] [] h :=
  rB_fold (cut := fun i => false) (f := 40) hy
set_option maxRecDepth 100000 in
theorem T46_Town_isLot_0 (d : Nat) (n0 z0 : Int) (Q : Int → mmH → Prop) (h : mmH) (a1 : Int) (hy : (a1 < 0 → Q 0 h) ∧ (¬ (a1 < 0) → ((h 46 1) ≤ a1 → Q 0 h) ∧ (¬ ((h 46 1) ≤ a1) → Q 1 h))) : rB d k_Town_isLot n0 z0 Q 0 [(3, 46), (1, a1)] [] h :=
  rB_fold (cut := fun i => false) (f := 40) hy
set_option maxRecDepth 100000 in
theorem T_TownText_readStork_0 (d : Nat) (n0 z0 : Int) (Q : Int → mmH → Prop) (h : mmH)  (hy : rC d k_TownText_passWord [3] h (fun x1 h1 => rC d k_TownText_lotByName [3] h1 (fun x2 h2 => mmG (Nat.beq (tSh (h2 3 7)).1 2) (rC d k_Town_isLot [(h2 3 7), x2] h2 (fun x3 h3 => (x3 = 0 → rB d k_TownText_readStork n0 z0 Q 2 [(3, 3), (1, x2)] [(1, 0), (3, 3)] h3) ∧ (¬ (x3 = 0) → mmG (Nat.beq (tSh (h3 3 7)).1 2) (mmG (Nat.beq (tSh ((tFc (h3 3 7) 9).getD (h3 (h3 3 7) 9))).1 104) (mmD ((0 : Int) ≤ x2 ∧ x2 < ((tSh ((tFc (h3 3 7) 9).getD (h3 (h3 3 7) 9))).2 : Int)) inferInstance (mmG (Nat.beq (tSh ((tFc ((tFc (h3 3 7) 9).getD (h3 (h3 3 7) 9)) x2).getD (h3 ((tFc (h3 3 7) 9).getD (h3 (h3 3 7) 9)) x2))).1 100) (mmD ((0 : Int) ≤ 4 ∧ 4 < ((tSh ((tFc ((tFc (h3 3 7) 9).getD (h3 (h3 3 7) 9)) x2).getD (h3 ((tFc (h3 3 7) 9).getD (h3 (h3 3 7) 9)) x2))).2 : Int)) inferInstance ((((tFc ((tFc ((tFc (h3 3 7) 9).getD (h3 (h3 3 7) 9)) x2).getD (h3 ((tFc (h3 3 7) 9).getD (h3 (h3 3 7) 9)) x2)) 4).getD (h3 ((tFc ((tFc (h3 3 7) 9).getD (h3 (h3 3 7) 9)) x2).getD (h3 ((tFc (h3 3 7) 9).getD (h3 (h3 3 7) 9)) x2)) 4)) = 0 → rB d k_TownText_readStork n0 z0 Q 2 [(3, 3), (1, x2)] [(1, 0), (3, 3)] h3) ∧ (¬ (((tFc ((tFc ((tFc (h3 3 7) 9).getD (h3 (h3 3 7) 9)) x2).getD (h3 ((tFc (h3 3 7) 9).getD (h3 (h3 3 7) 9)) x2)) 4).getD (h3 ((tFc ((tFc (h3 3 7) 9).getD (h3 (h3 3 7) 9)) x2).getD (h3 ((tFc (h3 3 7) 9).getD (h3 (h3 3 7) 9)) x2)) 4)) = 0) → rB d k_TownText_readStork n0 z0 Q 2 [(3, 3), (1, x2)] [(1, 1), (3, 3)] h3)))))))))))) : rB d k_TownText_readStork n0 z0 Q 0 [(3, 3), (0, 0)] [] h :=
  rB_fold (cut := fun i => Nat.beq i 2) (f := 40) hy
set_option maxRecDepth 100000 in
theorem T_TownText_readStork_2 (d : Nat) (n0 z0 : Int) (Q : Int → mmH → Prop) (h : mmH) (v1 : Int) (s0 : Int) (s1 : Int) (hy : mmG (Nat.beq (tSh s1).1 1) (rC d k_TownText_refuseNameIf [s1, s0] h (fun x1 h1 => ((h1 3 0) ≠ 0 → Q 0 h1) ∧ (¬ ((h1 3 0) ≠ 0) → mmG (Nat.beq (tSh (h1 3 7)).1 2) (rC d k_Town_isLot [(h1 3 7), v1] h1 (fun x2 h2 => (x2 = 0 → Q 0 h2) ∧ (¬ (x2 = 0) → mmG (Nat.beq (tSh (h2 3 7)).1 2) (mmG (Nat.beq (tSh ((tFc (h2 3 7) 9).getD (h2 (h2 3 7) 9))).1 104) (mmD ((0 : Int) ≤ v1 ∧ v1 < ((tSh ((tFc (h2 3 7) 9).getD (h2 (h2 3 7) 9))).2 : Int)) inferInstance (mmG (Nat.beq (tSh ((tFc ((tFc (h2 3 7) 9).getD (h2 (h2 3 7) 9)) v1).getD (h2 ((tFc (h2 3 7) 9).getD (h2 (h2 3 7) 9)) v1))).1 100 && (tWn 1 ((tFc ((tFc (h2 3 7) 9).getD (h2 (h2 3 7) 9)) v1).getD (h2 ((tFc (h2 3 7) 9).getD (h2 (h2 3 7) 9)) v1)) && (tFc ((tFc ((tFc (h2 3 7) 9).getD (h2 (h2 3 7) 9)) v1).getD (h2 ((tFc (h2 3 7) 9).getD (h2 (h2 3 7) 9)) v1)) 4).isNone)) (mmD ((0 : Int) ≤ 4 ∧ 4 < ((tSh ((tFc ((tFc (h2 3 7) 9).getD (h2 (h2 3 7) 9)) v1).getD (h2 ((tFc (h2 3 7) 9).getD (h2 (h2 3 7) 9)) v1))).2 : Int)) inferInstance ((fun g3 : mmH => Q 0 g3) (mmS h2 ((tFc ((tFc (h2 3 7) 9).getD (h2 (h2 3 7) 9)) v1).getD (h2 ((tFc (h2 3 7) 9).getD (h2 (h2 3 7) 9)) v1)) 4 1))))))))))))) : rB d k_TownText_readStork n0 z0 Q 2 [(3, 3), (1, v1)] [(1, s0), (3, s1)] h :=
  rB_fold (cut := fun i => Nat.beq i 2) (f := 40) hy
set_option maxRecDepth 100000 in
theorem T_TownText_readGap_0 (d : Nat) (n0 z0 : Int) (Q : Int → mmH → Prop) (h : mmH)  (hy : mmG (Nat.beq (tSh (h 3 7)).1 2) (rC d k_TownText_beginOneOf [3, ((tFc (h 3 7) 2).getD (h (h 3 7) 2)), 20] h (fun x1 h1 => rC d k_TownText_lotByName [3] h1 (fun x2 h2 => rC d k_TownText_lotByName [3] h2 (fun x3 h3 => (x2 = x3 → rB d k_TownText_readGap n0 z0 Q 3 [(3, 3), (1, x2), (1, x3), (0, 0)] [(1, 1), (3, 3)] h3) ∧ (¬ (x2 = x3) → mmG (Nat.beq (tSh (h3 3 7)).1 2) (rC d k_Town_wideOf [(h3 3 7), x2, x3] h3 (fun x4 h4 => (x4 = (-1) → rB d k_TownText_readGap n0 z0 Q 3 [(3, 3), (1, x2), (1, x3), (0, 0)] [(1, 0), (3, 3)] h4) ∧ (¬ (x4 = (-1)) → rB d k_TownText_readGap n0 z0 Q 3 [(3, 3), (1, x2), (1, x3), (0, 0)] [(1, 1), (3, 3)] h4))))))))) : rB d k_TownText_readGap n0 z0 Q 0 [(3, 3), (0, 0), (0, 0), (0, 0)] [] h :=
  rB_fold (cut := fun i => Nat.beq i 3) (f := 40) hy
set_option maxRecDepth 100000 in
theorem T_TownText_readGap_3 (d : Nat) (n0 z0 : Int) (Q : Int → mmH → Prop) (h : mmH) (v1 : Int) (v2 : Int) (s0 : Int) (s1 : Int) (hy : mmG (Nat.beq (tSh s1).1 1) (rC d k_TownText_refuseNameIf [s1, s0] h (fun x1 h1 => rC d k_TownText_takeWord [3, 9] h1 (fun x2 h2 => rC d k_TownText_number [3, 0, 9] h2 (fun x3 h3 => ((h3 3 0) ≠ 0 → Q 0 h3) ∧ (¬ ((h3 3 0) ≠ 0) → mmG (Nat.beq (tSh (h3 3 7)).1 2) (rC d k_Town_addGap [(h3 3 7), v1, v2, x3] h3 (fun x4 h4 => Q 0 h4)))))))) : rB d k_TownText_readGap n0 z0 Q 3 [(3, 3), (1, v1), (1, v2), (0, 0)] [(1, s0), (3, s1)] h :=
  rB_fold (cut := fun i => Nat.beq i 3) (f := 40) hy
set_option maxRecDepth 100000 in
theorem T5_Town_wideOf_0 (d : Nat) (n0 z0 : Int) (Q : Int → mmH → Prop) (h : mmH) (a1 : Int) (a2 : Int) (hy : rC d k_Town_isLot [5, a1] h (fun x1 h1 => (x1 = 0 → Q (-1) h1) ∧ (¬ (x1 = 0) → rC d k_Town_isLot [5, a2] h1 (fun x2 h2 => (x2 = 0 → Q (-1) h2) ∧ (¬ (x2 = 0) → mmD ((0 : Int) ≤ a1 ∧ a1 < ((10 : Nat) : Int)) inferInstance (mmG (Nat.beq (tSh ((tFc 27 a1).getD (h2 27 a1))).1 100) (mmD ((0 : Int) ≤ a2 ∧ a2 < ((tSh ((tFc 27 a1).getD (h2 27 a1))).2 : Int)) inferInstance (Q ((tFc ((tFc 27 a1).getD (h2 27 a1)) a2).getD (h2 ((tFc 27 a1).getD (h2 27 a1)) a2)) h2)))))))) : rB d k_Town_wideOf n0 z0 Q 0 [(3, 5), (1, a1), (1, a2)] [] h :=
  rB_fold (cut := fun i => false) (f := 40) hy
set_option maxRecDepth 100000 in
theorem T46_Town_wideOf_0 (d : Nat) (n0 z0 : Int) (Q : Int → mmH → Prop) (h : mmH) (a1 : Int) (a2 : Int) (hy : rC d k_Town_isLot [46, a1] h (fun x1 h1 => (x1 = 0 → Q (-1) h1) ∧ (¬ (x1 = 0) → rC d k_Town_isLot [46, a2] h1 (fun x2 h2 => (x2 = 0 → Q (-1) h2) ∧ (¬ (x2 = 0) → mmD ((0 : Int) ≤ a1 ∧ a1 < ((10 : Nat) : Int)) inferInstance (mmG (Nat.beq (tSh ((tFc 68 a1).getD (h2 68 a1))).1 100) (mmD ((0 : Int) ≤ a2 ∧ a2 < ((tSh ((tFc 68 a1).getD (h2 68 a1))).2 : Int)) inferInstance (Q ((tFc ((tFc 68 a1).getD (h2 68 a1)) a2).getD (h2 ((tFc 68 a1).getD (h2 68 a1)) a2)) h2)))))))) : rB d k_Town_wideOf n0 z0 Q 0 [(3, 46), (1, a1), (1, a2)] [] h :=
  rB_fold (cut := fun i => false) (f := 40) hy
set_option maxRecDepth 100000 in
theorem T5_Town_addGap_0 (d : Nat) (n0 z0 : Int) (Q : Int → mmH → Prop) (h : mmH) (a1 : Int) (a2 : Int) (a3 : Int) (hy : rC d k_Town_isLot [5, a1] h (fun x1 h1 => (x1 = 0 → Q 0 h1) ∧ (¬ (x1 = 0) → rC d k_Town_isLot [5, a2] h1 (fun x2 h2 => (x2 = 0 → Q 0 h2) ∧ (¬ (x2 = 0) → mmD ((0 : Int) ≤ a1 ∧ a1 < ((10 : Nat) : Int)) inferInstance (mmG (Nat.beq (tSh ((tFc 27 a1).getD (h2 27 a1))).1 100 && (tWn 1 ((tFc 27 a1).getD (h2 27 a1)) && (tFc ((tFc 27 a1).getD (h2 27 a1)) a2).isNone)) (mmD ((0 : Int) ≤ a2 ∧ a2 < ((tSh ((tFc 27 a1).getD (h2 27 a1))).2 : Int)) inferInstance ((fun g3 : mmH => mmD ((0 : Int) ≤ a2 ∧ a2 < ((10 : Nat) : Int)) inferInstance (mmG (Nat.beq (tSh ((tFc 27 a2).getD (g3 27 a2))).1 100 && (tWn 1 ((tFc 27 a2).getD (g3 27 a2)) && (tFc ((tFc 27 a2).getD (g3 27 a2)) a1).isNone)) (mmD ((0 : Int) ≤ a1 ∧ a1 < ((tSh ((tFc 27 a2).getD (g3 27 a2))).2 : Int)) inferInstance ((fun g4 : mmH => Q 0 (mmS g4 5 2 (mAdd (g4 5 2) 1))) (mmS g3 ((tFc 27 a2).getD (g3 27 a2)) a1 a3))))) (mmS h2 ((tFc 27 a1).getD (h2 27 a1)) a2 a3))))))))) : rB d k_Town_addGap n0 z0 Q 0 [(3, 5), (1, a1), (1, a2), (1, a3)] [] h :=
  rB_fold (cut := fun i => false) (f := 40) hy
set_option maxRecDepth 100000 in
theorem T46_Town_addGap_0 (d : Nat) (n0 z0 : Int) (Q : Int → mmH → Prop) (h : mmH) (a1 : Int) (a2 : Int) (a3 : Int) (hy : rC d k_Town_isLot [46, a1] h (fun x1 h1 => (x1 = 0 → Q 0 h1) ∧ (¬ (x1 = 0) → rC d k_Town_isLot [46, a2] h1 (fun x2 h2 => (x2 = 0 → Q 0 h2) ∧ (¬ (x2 = 0) → mmD ((0 : Int) ≤ a1 ∧ a1 < ((10 : Nat) : Int)) inferInstance (mmG (Nat.beq (tSh ((tFc 68 a1).getD (h2 68 a1))).1 100 && (tWn 1 ((tFc 68 a1).getD (h2 68 a1)) && (tFc ((tFc 68 a1).getD (h2 68 a1)) a2).isNone)) (mmD ((0 : Int) ≤ a2 ∧ a2 < ((tSh ((tFc 68 a1).getD (h2 68 a1))).2 : Int)) inferInstance ((fun g3 : mmH => mmD ((0 : Int) ≤ a2 ∧ a2 < ((10 : Nat) : Int)) inferInstance (mmG (Nat.beq (tSh ((tFc 68 a2).getD (g3 68 a2))).1 100 && (tWn 1 ((tFc 68 a2).getD (g3 68 a2)) && (tFc ((tFc 68 a2).getD (g3 68 a2)) a1).isNone)) (mmD ((0 : Int) ≤ a1 ∧ a1 < ((tSh ((tFc 68 a2).getD (g3 68 a2))).2 : Int)) inferInstance ((fun g4 : mmH => Q 0 (mmS g4 46 2 (mAdd (g4 46 2) 1))) (mmS g3 ((tFc 68 a2).getD (g3 68 a2)) a1 a3))))) (mmS h2 ((tFc 68 a1).getD (h2 68 a1)) a2 a3))))))))) : rB d k_Town_addGap n0 z0 Q 0 [(3, 46), (1, a1), (1, a2), (1, a3)] [] h :=
  rB_fold (cut := fun i => false) (f := 40) hy
set_option maxRecDepth 100000 in
theorem T_TownText_readPerson_0 (d : Nat) (n0 z0 : Int) (Q : Int → mmH → Prop) (h : mmH)  (hy : mmG (Nat.beq (tSh (h 3 7)).1 2) (rC d k_TownText_beginOneOf [3, ((tFc (h 3 7) 3).getD (h (h 3 7) 3)), 6] h (fun x1 h1 => rC d k_TownText_newName [3] h1 (fun x2 h2 => mmG (Nat.beq (tSh (h2 3 7)).1 2) (rC d k_Town_nextPersonRow [(h2 3 7)] h2 (fun x3 h3 => rC d k_TownText_takeWord [3, 11] h3 (fun x4 h4 => rD d k_TownText_readPerson n0 z0 Q (fun i => false) 0 16 [(3, 3), (1, x2), (3, x3)] [] h4))))))) : rB d k_TownText_readPerson n0 z0 Q 0 [(3, 3), (0, 0), (0, 0)] [] h :=
  rB_fold (cut := fun i => false) (f := 40) hy
set_option maxRecDepth 100000 in
theorem T_TownText_readPerson_0_16 (d : Nat) (n0 z0 : Int) (Q : Int → mmH → Prop) (h : mmH) (v1 : Int) (v2 : Int) (hy : rC d k_TownText_number [3, 1, 99] h (fun x1 h1 => mmG (Nat.beq (tSh v2).1 100 && (tWn 1 v2 && (tFc v2 0).isNone)) (mmD ((0 : Int) ≤ 0 ∧ 0 < ((tSh v2).2 : Int)) inferInstance ((fun g2 : mmH => rC d k_TownText_takeWord [3, 12] g2 (fun x3 h3 => rC d k_TownText_number [3, 0, 9] h3 (fun x4 h4 => mmG (Nat.beq (tSh v2).1 100 && (tWn 1 v2 && (tFc v2 1).isNone)) (mmD ((0 : Int) ≤ 1 ∧ 1 < ((tSh v2).2 : Int)) inferInstance ((fun g5 : mmH => rD d k_TownText_readPerson n0 z0 Q (fun i => false) 0 33 [(3, 3), (1, v1), (3, v2)] [] g5) (mmS h4 v2 1 x4)))))) (mmS h1 v2 0 x1))))) : rD d k_TownText_readPerson n0 z0 Q (fun i => false) 0 16 [(3, 3), (1, v1), (3, v2)] [] h := hy
set_option maxRecDepth 100000 in
theorem T_TownText_readPerson_0_33 (d : Nat) (n0 z0 : Int) (Q : Int → mmH → Prop) (h : mmH) (v1 : Int) (v2 : Int) (hy : rC d k_TownText_takeWord [3, 13] h (fun x1 h1 => rC d k_TownText_number [3, 0, 20] h1 (fun x2 h2 => mmG (Nat.beq (tSh v2).1 100 && (tWn 1 v2 && (tFc v2 2).isNone)) (mmD ((0 : Int) ≤ 2 ∧ 2 < ((tSh v2).2 : Int)) inferInstance ((fun g3 : mmH => rC d k_TownText_takeWord [3, 14] g3 (fun x4 h4 => rC d k_TownText_number [3, 0, 9] h4 (fun x5 h5 => rD d k_TownText_readPerson n0 z0 Q (fun i => false) 0 52 [(3, 3), (1, v1), (3, v2)] [(1, x5), (1, 3), (3, v2)] h5))) (mmS h2 v2 2 x2)))))) : rD d k_TownText_readPerson n0 z0 Q (fun i => false) 0 33 [(3, 3), (1, v1), (3, v2)] [] h := hy
set_option maxRecDepth 100000 in
theorem T_TownText_readPerson_0_52 (d : Nat) (n0 z0 : Int) (Q : Int → mmH → Prop) (h : mmH) (v1 : Int) (v2 : Int) (s0 : Int) (s1 : Int) (s2 : Int) (hy : mmG (Nat.beq (tSh s2).1 100 && (tWn 1 s2 && (tFc s2 s1).isNone)) (mmD ((0 : Int) ≤ s1 ∧ s1 < ((tSh s2).2 : Int)) inferInstance ((fun g1 : mmH => rC d k_TownText_takeWord [3, 15] g1 (fun x2 h2 => rC d k_TownText_lotByName [3] h2 (fun x3 h3 => mmG (Nat.beq (tSh v2).1 100 && (tWn 1 v2 && (tFc v2 4).isNone)) (mmD ((0 : Int) ≤ 4 ∧ 4 < ((tSh v2).2 : Int)) inferInstance ((fun g4 : mmH => rC d k_TownText_takeWord [3, 16] g4 (fun x5 h5 => rD d k_TownText_readPerson n0 z0 Q (fun i => false) 0 64 [(3, 3), (1, v1), (3, v2)] [] h5)) (mmS h3 v2 4 x3)))))) (mmS h s2 s1 s0)))) : rD d k_TownText_readPerson n0 z0 Q (fun i => false) 0 52 [(3, 3), (1, v1), (3, v2)] [(1, s0), (1, s1), (3, s2)] h := hy
set_option maxRecDepth 100000 in
theorem T_TownText_readPerson_0_64 (d : Nat) (n0 z0 : Int) (Q : Int → mmH → Prop) (h : mmH) (v1 : Int) (v2 : Int) (hy : rC d k_TownText_lotByName [3] h (fun x1 h1 => mmG (Nat.beq (tSh v2).1 100 && (tWn 1 v2 && (tFc v2 5).isNone)) (mmD ((0 : Int) ≤ 5 ∧ 5 < ((tSh v2).2 : Int)) inferInstance ((fun g2 : mmH => mmG (Nat.beq (tSh v2).1 100) (mmD ((0 : Int) ≤ 4 ∧ 4 < ((tSh v2).2 : Int)) inferInstance (mmG (Nat.beq (tSh v2).1 100) (mmD ((0 : Int) ≤ 5 ∧ 5 < ((tSh v2).2 : Int)) inferInstance ((((tFc v2 4).getD (g2 v2 4)) ≠ ((tFc v2 5).getD (g2 v2 5)) → rC d k_TownText_refuseNameIf [3, 0] g2 (fun x3 h3 => ((h3 3 0) ≠ 0 → Q 0 h3) ∧ (¬ ((h3 3 0) ≠ 0) → mmG (Nat.beq (tSh (h3 3 7)).1 2) (rC d k_Town_addPerson [(h3 3 7), v1] h3 (fun x4 h4 => Q 0 h4))))) ∧ (¬ (((tFc v2 4).getD (g2 v2 4)) ≠ ((tFc v2 5).getD (g2 v2 5))) → rC d k_TownText_refuseNameIf [3, 1] g2 (fun x5 h5 => ((h5 3 0) ≠ 0 → Q 0 h5) ∧ (¬ ((h5 3 0) ≠ 0) → mmG (Nat.beq (tSh (h5 3 7)).1 2) (rC d k_Town_addPerson [(h5 3 7), v1] h5 (fun x6 h6 => Q 0 h6)))))))))) (mmS h1 v2 5 x1))))) : rD d k_TownText_readPerson n0 z0 Q (fun i => false) 0 64 [(3, 3), (1, v1), (3, v2)] [] h := hy
set_option maxRecDepth 100000 in
theorem T5_Town_nextPersonRow_0 (d : Nat) (n0 z0 : Int) (Q : Int → mmH → Prop) (h : mmH)  (hy : mmD ((0 : Int) ≤ (mMin (h 5 3) 5) ∧ (mMin (h 5 3) 5) < ((6 : Nat) : Int)) inferInstance (Q ((tFc 20 (mMin (h 5 3) 5)).getD (h 20 (mMin (h 5 3) 5))) h)) : rB d k_Town_nextPersonRow n0 z0 Q 0 [(3, 5)] [] h :=
  rB_fold (cut := fun i => false) (f := 40) hy
set_option maxRecDepth 100000 in
theorem T46_Town_nextPersonRow_0 (d : Nat) (n0 z0 : Int) (Q : Int → mmH → Prop) (h : mmH)  (hy : mmD ((0 : Int) ≤ (mMin (h 46 3) 5) ∧ (mMin (h 46 3) 5) < ((6 : Nat) : Int)) inferInstance (Q ((tFc 61 (mMin (h 46 3) 5)).getD (h 61 (mMin (h 46 3) 5))) h)) : rB d k_Town_nextPersonRow n0 z0 Q 0 [(3, 46)] [] h :=
  rB_fold (cut := fun i => false) (f := 40) hy
set_option maxRecDepth 100000 in
theorem T5_Town_addPerson_0 (d : Nat) (n0 z0 : Int) (Q : Int → mmH → Prop) (h : mmH) (a1 : Int) (hy : (6 ≤ (h 5 3) → Q 0 h) ∧ (¬ (6 ≤ (h 5 3)) → mmD ((0 : Int) ≤ (h 5 3) ∧ (h 5 3) < ((6 : Nat) : Int)) inferInstance (Q 0 (mmS (mmS h 8 (h 5 3) a1) 5 3 (mAdd (h 5 3) 1))))) : rB d k_Town_addPerson n0 z0 Q 0 [(3, 5), (1, a1)] [] h :=
  rB_fold (cut := fun i => false) (f := 40) hy
set_option maxRecDepth 100000 in
theorem T46_Town_addPerson_0 (d : Nat) (n0 z0 : Int) (Q : Int → mmH → Prop) (h : mmH) (a1 : Int) (hy : (6 ≤ (h 46 3) → Q 0 h) ∧ (¬ (6 ≤ (h 46 3)) → mmD ((0 : Int) ≤ (h 46 3) ∧ (h 46 3) < ((6 : Nat) : Int)) inferInstance (Q 0 (mmS (mmS h 49 (h 46 3) a1) 46 3 (mAdd (h 46 3) 1))))) : rB d k_Town_addPerson n0 z0 Q 0 [(3, 46), (1, a1)] [] h :=
  rB_fold (cut := fun i => false) (f := 40) hy
set_option maxRecDepth 100000 in
theorem T_TownText_readLaw_0 (d : Nat) (n0 z0 : Int) (Q : Int → mmH → Prop) (h : mmH) (a1 : Int) (hy : mmG (Nat.beq (tSh (h 3 7)).1 2) (mmG (Nat.beq (tSh ((tFc (h 3 7) 12).getD (h (h 3 7) 12))).1 3) (rC d k_TownText_beginOneOf [3, ((tFc ((tFc (h 3 7) 12).getD (h (h 3 7) 12)) 0).getD (h ((tFc (h 3 7) 12).getD (h (h 3 7) 12)) 0)), 8] h (fun x1 h1 => rC d k_TownText_ownerByName [3] h1 (fun x2 h2 => mmG (Nat.beq (tSh (h2 3 7)).1 2) (mmG (Nat.beq (tSh ((tFc (h2 3 7) 12).getD (h2 (h2 3 7) 12))).1 3) ((a1 = 0 → rB d k_TownText_readLaw n0 z0 Q 1 [(3, 3), (1, a1), (1, x2), (1, ((tFc ((tFc (h2 3 7) 12).getD (h2 (h2 3 7) 12)) 1).getD (h2 ((tFc (h2 3 7) 12).getD (h2 (h2 3 7) 12)) 1))), (0, 0)] [] h2) ∧ (¬ (a1 = 0) → rC d k_TownText_sum [3, 0] h2 (fun x3 h3 => rB d k_TownText_readLaw n0 z0 Q 1 [(3, 3), (1, a1), (1, x2), (1, ((tFc ((tFc (h2 3 7) 12).getD (h2 (h2 3 7) 12)) 1).getD (h2 ((tFc (h2 3 7) 12).getD (h2 (h2 3 7) 12)) 1))), (0, 0)] [] h3))))))))) : rB d k_TownText_readLaw n0 z0 Q 0 [(3, 3), (1, a1), (0, 0), (0, 0), (0, 0)] [] h :=
  rB_fold (cut := fun i => Nat.beq i 1) (f := 40) hy
set_option maxRecDepth 100000 in
theorem T_TownText_readLaw_1 (d : Nat) (n0 z0 : Int) (Q : Int → mmH → Prop) (h : mmH) (v1 : Int) (v2 : Int) (v3 : Int) (hy : rC d k_TownText_takeWord [3, 19] h (fun x1 h1 => mmG (Nat.beq (tSh (h1 3 7)).1 2) (mmG (Nat.beq (tSh ((tFc (h1 3 7) 12).getD (h1 (h1 3 7) 12))).1 3) (rC d k_TownText_test [3, 0] h1 (fun x2 h2 => ((h2 3 0) ≠ 0 → Q 0 h2) ∧ (¬ ((h2 3 0) ≠ 0) → mmG (Nat.beq (tSh (h2 3 7)).1 2) (mmG (Nat.beq (tSh ((tFc (h2 3 7) 12).getD (h2 (h2 3 7) 12))).1 3) (rC d k_Laws_add [((tFc (h2 3 7) 12).getD (h2 (h2 3 7) 12)), v2, v3, ((tFc ((tFc (h1 3 7) 12).getD (h1 (h1 3 7) 12)) 1).getD (h1 ((tFc (h1 3 7) 12).getD (h1 (h1 3 7) 12)) 1))] h2 (fun x3 h3 => Q 0 h3))))))))) : rB d k_TownText_readLaw n0 z0 Q 1 [(3, 3), (1, v1), (1, v2), (1, v3), (0, 0)] [] h :=
  rB_fold (cut := fun i => Nat.beq i 1) (f := 40) hy
set_option maxRecDepth 100000 in
theorem T_TownText_sum_0 (d : Nat) (n0 z0 : Int) (Q : Int → mmH → Prop) (h : mmH) (a1 : Int) (hy : rC d k_TownText_product [3, a1] h (fun x1 h1 => rB d k_TownText_sum n0 z0 Q 1 [(3, 3), (1, a1), (1, 0), (0, 0)] [] h1)) : rB d k_TownText_sum n0 z0 Q 0 [(3, 3), (1, a1), (0, 0), (0, 0)] [] h :=
  rB_fold (cut := fun i => Nat.beq i 1) (f := 40) hy
set_option maxRecDepth 100000 in
theorem T_TownText_sum_1 (d : Nat) (n0 z0 : Int) (Q : Int → mmH → Prop) (h : mmH) (v1 : Int) (v2 : Int) (w3 : mmV) (hy : (1600 ≤ v2 → Q 0 h) ∧ (¬ (1600 ≤ v2) → ((h 3 0) ≠ 0 → Q 0 h) ∧ (¬ ((h 3 0) ≠ 0) → rC d k_TownText_isHere [3, 43, 45] h (fun x1 h1 => (x1 = 0 → Q 0 h1) ∧ (¬ (x1 = 0) → rC d k_TownText_here [3] h1 (fun x2 h2 => rC d k_TownText_product [3, v1] (mmS h2 3 4 (mAdd (h2 3 4) 1)) (fun x3 h3 => mmG (Nat.beq (tSh (h3 3 7)).1 2) (mmG (Nat.beq (tSh ((tFc (h3 3 7) 12).getD (h3 (h3 3 7) 12))).1 3) (rC d k_Laws_put [((tFc (h3 3 7) 12).getD (h3 (h3 3 7) 12)), (mAdd 10000 x2)] h3 (fun x4 h4 => rB d k_TownText_sum n0 z0 Q 1 [(3, 3), (1, v1), (1, (mAdd v2 1)), (1, x2)] [] h4)))))))))) : rB d k_TownText_sum n0 z0 Q 1 [(3, 3), (1, v1), (1, v2), w3] [] h :=
  rB_fold (cut := fun i => Nat.beq i 1) (f := 40) hy
set_option maxRecDepth 100000 in
theorem T_TownText_product_0 (d : Nat) (n0 z0 : Int) (Q : Int → mmH → Prop) (h : mmH) (a1 : Int) (hy : rC d k_TownText_part [3, a1] h (fun x1 h1 => rB d k_TownText_product n0 z0 Q 1 [(3, 3), (1, a1), (1, 0), (0, 0)] [] h1)) : rB d k_TownText_product n0 z0 Q 0 [(3, 3), (1, a1), (0, 0), (0, 0)] [] h :=
  rB_fold (cut := fun i => Nat.beq i 1) (f := 40) hy
set_option maxRecDepth 100000 in
theorem T_TownText_product_1 (d : Nat) (n0 z0 : Int) (Q : Int → mmH → Prop) (h : mmH) (v1 : Int) (v2 : Int) (w3 : mmV) (hy : (1600 ≤ v2 → Q 0 h) ∧ (¬ (1600 ≤ v2) → ((h 3 0) ≠ 0 → Q 0 h) ∧ (¬ ((h 3 0) ≠ 0) → rC d k_TownText_isHere [3, 42, 47] h (fun x1 h1 => (x1 = 0 → Q 0 h1) ∧ (¬ (x1 = 0) → rC d k_TownText_here [3] h1 (fun x2 h2 => rC d k_TownText_part [3, v1] (mmS h2 3 4 (mAdd (h2 3 4) 1)) (fun x3 h3 => mmG (Nat.beq (tSh (h3 3 7)).1 2) (mmG (Nat.beq (tSh ((tFc (h3 3 7) 12).getD (h3 (h3 3 7) 12))).1 3) (rC d k_Laws_put [((tFc (h3 3 7) 12).getD (h3 (h3 3 7) 12)), (mAdd 10000 x2)] h3 (fun x4 h4 => rB d k_TownText_product n0 z0 Q 1 [(3, 3), (1, v1), (1, (mAdd v2 1)), (1, x2)] [] h4)))))))))) : rB d k_TownText_product n0 z0 Q 1 [(3, 3), (1, v1), (1, v2), w3] [] h :=
  rB_fold (cut := fun i => Nat.beq i 1) (f := 40) hy
set_option maxRecDepth 100000 in
theorem T_TownText_part_0 (d : Nat) (n0 z0 : Int) (Q : Int → mmH → Prop) (h : mmH) (a1 : Int) (hy : ((h 3 0) = 0 → rC d k_TownText_wordHere [3] h (fun x1 h1 => rC d k_TownText_here [3] h1 (fun x2 h2 => rC d k_TownText_isDigit [x2] h2 (fun x3 h3 => (x3 = 0 → rC d k_TownText_here [3] h3 (fun x4 h4 => (x4 ≠ 40 → (x1 = 27 → rC d k_TownText_passWord [3] h4 (fun x5 h5 => rC d k_TownText_pair [3, a1] h5 (fun x6 h6 => mmG (Nat.beq (tSh (h6 3 7)).1 2) (mmG (Nat.beq (tSh ((tFc (h6 3 7) 12).getD (h6 (h6 3 7) 12))).1 3) (rC d k_Laws_put [((tFc (h6 3 7) 12).getD (h6 (h6 3 7) 12)), (mAdd 10200 x1)] h6 (fun x7 h7 => Q 0 h7)))))) ∧ (¬ (x1 = 27) → (x1 ≠ 28 → rC d k_TownText_isFactWord [x1] h4 (fun x8 h8 => (x8 = 0 → rC d k_TownText_fail [3, 1, (h8 3 4)] h8 (fun x9 h9 => Q 0 h9)) ∧ (¬ (x8 = 0) → rC d k_TownText_passWord [3] h8 (fun x10 h10 => mmG (Nat.beq (tSh (h10 3 7)).1 2) (mmG (Nat.beq (tSh ((tFc (h10 3 7) 12).getD (h10 (h10 3 7) 12))).1 3) (rC d k_Laws_put [((tFc (h10 3 7) 12).getD (h10 (h10 3 7) 12)), (mAdd 10200 x1)] h10 (fun x11 h11 => Q 0 h11))))))) ∧ (¬ (x1 ≠ 28) → rC d k_TownText_passWord [3] h4 (fun x12 h12 => rC d k_TownText_pair [3, a1] h12 (fun x13 h13 => mmG (Nat.beq (tSh (h13 3 7)).1 2) (mmG (Nat.beq (tSh ((tFc (h13 3 7) 12).getD (h13 (h13 3 7) 12))).1 3) (rC d k_Laws_put [((tFc (h13 3 7) 12).getD (h13 (h13 3 7) 12)), (mAdd 10200 x1)] h13 (fun x14 h14 => Q 0 h14)))))))) ∧ (¬ (x4 ≠ 40) → rC d k_TownText_mayOpen [3, a1] h4 (fun x15 h15 => (x15 = 0 → Q 0 h15) ∧ (¬ (x15 = 0) → rC d k_TownText_takeSign [3, 40] h15 (fun x16 h16 => rC d k_TownText_sum [3, (mAdd a1 1)] h16 (fun x17 h17 => rC d k_TownText_takeSign [3, 41] h17 (fun x18 h18 => Q 0 h18)))))))) ∧ (¬ (x3 = 0) → mmG (Nat.beq (tSh (h3 3 7)).1 2) (rC d k_TownText_number [3, 0, 9999] h3 (fun x19 h19 => mmG (Nat.beq (tSh ((tFc (h3 3 7) 12).getD (h3 (h3 3 7) 12))).1 3) (rC d k_Laws_put [((tFc (h3 3 7) 12).getD (h3 (h3 3 7) 12)), x19] h19 (fun x20 h20 => Q 0 h20))))))))) ∧ (¬ ((h 3 0) = 0) → Q 0 h)) : rB d k_TownText_part n0 z0 Q 0 [(3, 3), (1, a1), (0, 0)] [] h :=
  rB_fold (cut := fun i => false) (f := 40) hy
set_option maxRecDepth 100000 in
theorem T38_Laws_put_0 (d : Nat) (n0 z0 : Int) (Q : Int → mmH → Prop) (h : mmH) (a1 : Int) (hy : (1600 ≤ (h 38 1) → Q 0 h) ∧ (¬ (1600 ≤ (h 38 1)) → mmD ((0 : Int) ≤ (h 38 1) ∧ (h 38 1) < ((1600 : Nat) : Int)) inferInstance (Q 0 (mmS (mmS h 43 (h 38 1) a1) 38 1 (mAdd (h 38 1) 1))))) : rB d k_Laws_put n0 z0 Q 0 [(3, 38), (1, a1)] [] h :=
  rB_fold (cut := fun i => false) (f := 40) hy
set_option maxRecDepth 100000 in
theorem T79_Laws_put_0 (d : Nat) (n0 z0 : Int) (Q : Int → mmH → Prop) (h : mmH) (a1 : Int) (hy : (1600 ≤ (h 79 1) → Q 0 h) ∧ (¬ (1600 ≤ (h 79 1)) → mmD ((0 : Int) ≤ (h 79 1) ∧ (h 79 1) < ((1600 : Nat) : Int)) inferInstance (Q 0 (mmS (mmS h 84 (h 79 1) a1) 79 1 (mAdd (h 79 1) 1))))) : rB d k_Laws_put n0 z0 Q 0 [(3, 79), (1, a1)] [] h :=
  rB_fold (cut := fun i => false) (f := 40) hy
end
section
/-! ===== mm: trees, by program ===== -/
set_option maxRecDepth 100000 in
theorem T_TownText_mayOpen_0 (d : Nat) (n0 z0 : Int) (Q : Int → mmH → Prop) (h : mmH) (a1 : Int) (hy : (a1 < 6 → ((h 3 0) ≠ 0 → Q 0 h) ∧ (¬ ((h 3 0) ≠ 0) → Q 1 h)) ∧ (¬ (a1 < 6) → rC d k_TownText_fail [3, 4, (h 3 4)] h (fun x1 h1 => ((h1 3 0) ≠ 0 → Q 0 h1) ∧ (¬ ((h1 3 0) ≠ 0) → Q 1 h1)))) : rB d k_TownText_mayOpen n0 z0 Q 0 [(3, 3), (1, a1)] [] h :=
  rB_fold (cut := fun i => false) (f := 40) hy
set_option maxRecDepth 100000 in
theorem T_TownText_takeSign_0 (d : Nat) (n0 z0 : Int) (Q : Int → mmH → Prop) (h : mmH) (a1 : Int) (hy : rC d k_TownText_skipBlanks [3] h (fun x1 h1 => rC d k_TownText_here [3] h1 (fun x2 h2 => (x2 ≠ a1 → rC d k_TownText_fail [3, 1, (h2 3 4)] h2 (fun x3 h3 => Q 0 h3)) ∧ (¬ (x2 ≠ a1) → Q 0 (mmS h2 3 4 (mAdd (h2 3 4) 1)))))) : rB d k_TownText_takeSign n0 z0 Q 0 [(3, 3), (1, a1)] [] h :=
  rB_fold (cut := fun i => false) (f := 40) hy
set_option maxRecDepth 100000 in
theorem T_TownText_pair_0 (d : Nat) (n0 z0 : Int) (Q : Int → mmH → Prop) (h : mmH) (a1 : Int) (hy : rC d k_TownText_skipBlanks [3] h (fun x1 h1 => rC d k_TownText_here [3] h1 (fun x2 h2 => (x2 = 40 → rC d k_TownText_mayOpen [3, a1] h2 (fun x3 h3 => (x3 = 0 → Q 0 h3) ∧ (¬ (x3 = 0) → rC d k_TownText_takeSign [3, 40] h3 (fun x4 h4 => rC d k_TownText_sum [3, (mAdd a1 1)] h4 (fun x5 h5 => rC d k_TownText_takeSign [3, 44] h5 (fun x6 h6 => rC d k_TownText_sum [3, (mAdd a1 1)] h6 (fun x7 h7 => rC d k_TownText_takeSign [3, 41] h7 (fun x8 h8 => Q 0 h8)))))))) ∧ (¬ (x2 = 40) → rC d k_TownText_fail [3, 1, (h2 3 4)] h2 (fun x9 h9 => Q 0 h9))))) : rB d k_TownText_pair n0 z0 Q 0 [(3, 3), (1, a1)] [] h :=
  rB_fold (cut := fun i => false) (f := 40) hy
set_option maxRecDepth 100000 in
theorem T_TownText_isFactWord_0 (d : Nat) (n0 z0 : Int) (Q : Int → mmH → Prop) (h : mmH) (a0 : Int) (hy : (a0 = 11 → Q 1 h) ∧ (¬ (a0 = 11) → (a0 = 14 → Q 1 h) ∧ (¬ (a0 = 14) → (a0 = 3 → Q 1 h) ∧ (¬ (a0 = 3) → (a0 = 4 → Q 1 h) ∧ (¬ (a0 = 4) → (a0 ≠ 22 → Q 0 h) ∧ (¬ (a0 ≠ 22) → Q 1 h)))))) : rB d k_TownText_isFactWord n0 z0 Q 0 [(1, a0)] [] h :=
  rB_fold (cut := fun i => false) (f := 40) hy
set_option maxRecDepth 100000 in
theorem T_TownText_isHere_0 (d : Nat) (n0 z0 : Int) (Q : Int → mmH → Prop) (h : mmH) (a1 : Int) (a2 : Int) (hy : rC d k_TownText_skipBlanks [3] h (fun x1 h1 => rC d k_TownText_here [3] h1 (fun x2 h2 => (x2 = a1 → Q 1 h2) ∧ (¬ (x2 = a1) → rC d k_TownText_here [3] h2 (fun x3 h3 => (x3 ≠ a2 → Q 0 h3) ∧ (¬ (x3 ≠ a2) → Q 1 h3)))))) : rB d k_TownText_isHere n0 z0 Q 0 [(3, 3), (1, a1), (1, a2)] [] h :=
  rB_fold (cut := fun i => false) (f := 40) hy
set_option maxRecDepth 100000 in
theorem T_TownText_test_0 (d : Nat) (n0 z0 : Int) (Q : Int → mmH → Prop) (h : mmH) (a1 : Int) (hy : rC d k_TownText_both [3, a1] h (fun x1 h1 => rB d k_TownText_test n0 z0 Q 1 [(3, 3), (1, a1), (1, 0)] [] h1)) : rB d k_TownText_test n0 z0 Q 0 [(3, 3), (1, a1), (0, 0)] [] h :=
  rB_fold (cut := fun i => Nat.beq i 1) (f := 40) hy
set_option maxRecDepth 100000 in
theorem T_TownText_test_1 (d : Nat) (n0 z0 : Int) (Q : Int → mmH → Prop) (h : mmH) (v1 : Int) (v2 : Int) (hy : (1600 ≤ v2 → Q 0 h) ∧ (¬ (1600 ≤ v2) → ((h 3 0) ≠ 0 → Q 0 h) ∧ (¬ ((h 3 0) ≠ 0) → rC d k_TownText_wordHere [3] h (fun x1 h1 => (x1 ≠ 23 → Q 0 h1) ∧ (¬ (x1 ≠ 23) → rC d k_TownText_passWord [3] h1 (fun x2 h2 => rC d k_TownText_both [3, v1] h2 (fun x3 h3 => mmG (Nat.beq (tSh (h3 3 7)).1 2) (mmG (Nat.beq (tSh ((tFc (h3 3 7) 12).getD (h3 (h3 3 7) 12))).1 3) (rC d k_Laws_put [((tFc (h3 3 7) 12).getD (h3 (h3 3 7) 12)), 10223] h3 (fun x4 h4 => rB d k_TownText_test n0 z0 Q 1 [(3, 3), (1, v1), (1, (mAdd v2 1))] [] h4)))))))))) : rB d k_TownText_test n0 z0 Q 1 [(3, 3), (1, v1), (1, v2)] [] h :=
  rB_fold (cut := fun i => Nat.beq i 1) (f := 40) hy
set_option maxRecDepth 100000 in
theorem T_TownText_both_0 (d : Nat) (n0 z0 : Int) (Q : Int → mmH → Prop) (h : mmH) (a1 : Int) (hy : rC d k_TownText_fact [3, a1] h (fun x1 h1 => rB d k_TownText_both n0 z0 Q 1 [(3, 3), (1, a1), (1, 0)] [] h1)) : rB d k_TownText_both n0 z0 Q 0 [(3, 3), (1, a1), (0, 0)] [] h :=
  rB_fold (cut := fun i => Nat.beq i 1) (f := 40) hy
set_option maxRecDepth 100000 in
theorem T_TownText_both_1 (d : Nat) (n0 z0 : Int) (Q : Int → mmH → Prop) (h : mmH) (v1 : Int) (v2 : Int) (hy : (1600 ≤ v2 → Q 0 h) ∧ (¬ (1600 ≤ v2) → ((h 3 0) ≠ 0 → Q 0 h) ∧ (¬ ((h 3 0) ≠ 0) → rC d k_TownText_wordHere [3] h (fun x1 h1 => (x1 ≠ 24 → Q 0 h1) ∧ (¬ (x1 ≠ 24) → rC d k_TownText_passWord [3] h1 (fun x2 h2 => rC d k_TownText_fact [3, v1] h2 (fun x3 h3 => mmG (Nat.beq (tSh (h3 3 7)).1 2) (mmG (Nat.beq (tSh ((tFc (h3 3 7) 12).getD (h3 (h3 3 7) 12))).1 3) (rC d k_Laws_put [((tFc (h3 3 7) 12).getD (h3 (h3 3 7) 12)), 10224] h3 (fun x4 h4 => rB d k_TownText_both n0 z0 Q 1 [(3, 3), (1, v1), (1, (mAdd v2 1))] [] h4)))))))))) : rB d k_TownText_both n0 z0 Q 1 [(3, 3), (1, v1), (1, v2)] [] h :=
  rB_fold (cut := fun i => Nat.beq i 1) (f := 40) hy
set_option maxRecDepth 100000 in
theorem T_TownText_fact_0 (d : Nat) (n0 z0 : Int) (Q : Int → mmH → Prop) (h : mmH) (a1 : Int) (hy : ((h 3 0) = 0 → rC d k_TownText_wordHere [3] h (fun x1 h1 => (x1 ≠ 25 → (x1 ≠ 26 → rC d k_TownText_here [3] h1 (fun x2 h2 => (x2 ≠ 91 → rC d k_TownText_comparison [3, a1] h2 (fun x3 h3 => Q 0 h3)) ∧ (¬ (x2 ≠ 91) → rC d k_TownText_mayOpen [3, a1] h2 (fun x4 h4 => (x4 = 0 → Q 0 h4) ∧ (¬ (x4 = 0) → rC d k_TownText_takeSign [3, 91] h4 (fun x5 h5 => rC d k_TownText_test [3, (mAdd a1 1)] h5 (fun x6 h6 => rC d k_TownText_takeSign [3, 93] h6 (fun x7 h7 => Q 0 h7)))))))) ∧ (¬ (x1 ≠ 26) → rC d k_TownText_passWord [3] h1 (fun x8 h8 => mmG (Nat.beq (tSh (h8 3 7)).1 2) (mmG (Nat.beq (tSh ((tFc (h8 3 7) 12).getD (h8 (h8 3 7) 12))).1 3) (rC d k_Laws_put [((tFc (h8 3 7) 12).getD (h8 (h8 3 7) 12)), 10226] h8 (fun x9 h9 => Q 0 h9)))))) ∧ (¬ (x1 ≠ 25) → rC d k_TownText_mayOpen [3, a1] h1 (fun x10 h10 => (x10 = 0 → Q 0 h10) ∧ (¬ (x10 = 0) → rC d k_TownText_passWord [3] h10 (fun x11 h11 => rC d k_TownText_fact [3, (mAdd a1 1)] h11 (fun x12 h12 => mmG (Nat.beq (tSh (h12 3 7)).1 2) (mmG (Nat.beq (tSh ((tFc (h12 3 7) 12).getD (h12 (h12 3 7) 12))).1 3) (rC d k_Laws_put [((tFc (h12 3 7) 12).getD (h12 (h12 3 7) 12)), 10225] h12 (fun x13 h13 => Q 0 h13)))))))))) ∧ (¬ ((h 3 0) = 0) → Q 0 h)) : rB d k_TownText_fact n0 z0 Q 0 [(3, 3), (1, a1), (0, 0)] [] h :=
  rB_fold (cut := fun i => false) (f := 40) hy
set_option maxRecDepth 100000 in
theorem T_TownText_comparison_0 (d : Nat) (n0 z0 : Int) (Q : Int → mmH → Prop) (h : mmH) (a1 : Int) (hy : rC d k_TownText_sum [3, a1] h (fun x1 h1 => rC d k_TownText_skipBlanks [3] h1 (fun x2 h2 => rC d k_TownText_here [3] h2 (fun x3 h3 => (x3 = 60 → rB d k_TownText_comparison n0 z0 Q 1 [(3, 3), (1, a1), (1, x3)] [] h3) ∧ (¬ (x3 = 60) → (x3 = 62 → rB d k_TownText_comparison n0 z0 Q 1 [(3, 3), (1, a1), (1, x3)] [] h3) ∧ (¬ (x3 = 62) → (x3 ≠ 61 → rC d k_TownText_fail [3, 1, (h3 3 4)] h3 (fun x4 h4 => Q 0 h4)) ∧ (¬ (x3 ≠ 61) → rB d k_TownText_comparison n0 z0 Q 1 [(3, 3), (1, a1), (1, x3)] [] h3))))))) : rB d k_TownText_comparison n0 z0 Q 0 [(3, 3), (1, a1), (0, 0)] [] h :=
  rB_fold (cut := fun i => Nat.beq i 1) (f := 40) hy
set_option maxRecDepth 100000 in
theorem T_TownText_comparison_1 (d : Nat) (n0 z0 : Int) (Q : Int → mmH → Prop) (h : mmH) (v1 : Int) (v2 : Int) (hy : rC d k_TownText_sum [3, v1] (mmS h 3 4 (mAdd (h 3 4) 1)) (fun x1 h1 => mmG (Nat.beq (tSh (h1 3 7)).1 2) (mmG (Nat.beq (tSh ((tFc (h1 3 7) 12).getD (h1 (h1 3 7) 12))).1 3) (rC d k_Laws_put [((tFc (h1 3 7) 12).getD (h1 (h1 3 7) 12)), (mAdd 10000 v2)] h1 (fun x2 h2 => Q 0 h2))))) : rB d k_TownText_comparison n0 z0 Q 1 [(3, 3), (1, v1), (1, v2)] [] h :=
  rB_fold (cut := fun i => Nat.beq i 1) (f := 40) hy
set_option maxRecDepth 100000 in
theorem T38_Laws_add_0 (d : Nat) (n0 z0 : Int) (Q : Int → mmH → Prop) (h : mmH) (a1 : Int) (a2 : Int) (a3 : Int) (hy : (8 ≤ (h 38 0) → Q 0 h) ∧ (¬ (8 ≤ (h 38 0)) → mmD ((0 : Int) ≤ (h 38 0) ∧ (h 38 0) < ((8 : Nat) : Int)) inferInstance (mmD ((0 : Int) ≤ (h 38 0) ∧ (h 38 0) < ((8 : Nat) : Int)) inferInstance (mmD ((0 : Int) ≤ (h 38 0) ∧ (h 38 0) < ((8 : Nat) : Int)) inferInstance (mmD ((0 : Int) ≤ (h 38 0) ∧ (h 38 0) < ((8 : Nat) : Int)) inferInstance (Q 0 (mmS (mmS (mmS (mmS (mmS h 39 (h 38 0) a1) 40 (h 38 0) a2) 41 (h 38 0) a3) 42 (h 38 0) (h 38 1)) 38 0 (mAdd (h 38 0) 1)))))))) : rB d k_Laws_add n0 z0 Q 0 [(3, 38), (1, a1), (1, a2), (1, a3)] [] h :=
  rB_fold (cut := fun i => false) (f := 40) hy
set_option maxRecDepth 100000 in
theorem T79_Laws_add_0 (d : Nat) (n0 z0 : Int) (Q : Int → mmH → Prop) (h : mmH) (a1 : Int) (a2 : Int) (a3 : Int) (hy : (8 ≤ (h 79 0) → Q 0 h) ∧ (¬ (8 ≤ (h 79 0)) → mmD ((0 : Int) ≤ (h 79 0) ∧ (h 79 0) < ((8 : Nat) : Int)) inferInstance (mmD ((0 : Int) ≤ (h 79 0) ∧ (h 79 0) < ((8 : Nat) : Int)) inferInstance (mmD ((0 : Int) ≤ (h 79 0) ∧ (h 79 0) < ((8 : Nat) : Int)) inferInstance (mmD ((0 : Int) ≤ (h 79 0) ∧ (h 79 0) < ((8 : Nat) : Int)) inferInstance (Q 0 (mmS (mmS (mmS (mmS (mmS h 80 (h 79 0) a1) 81 (h 79 0) a2) 82 (h 79 0) a3) 83 (h 79 0) (h 79 1)) 79 0 (mAdd (h 79 0) 1)))))))) : rB d k_Laws_add n0 z0 Q 0 [(3, 79), (1, a1), (1, a2), (1, a3)] [] h :=
  rB_fold (cut := fun i => false) (f := 40) hy
set_option maxRecDepth 100000 in
theorem T_TownText_close_0 (d : Nat) (n0 z0 : Int) (Q : Int → mmH → Prop) (h : mmH)  (hy : rC d k_TownText_goesOn [3] h (fun x1 h1 => (x1 = 0 → Q 0 h1) ∧ (¬ (x1 = 0) → rC d k_TownText_fail [3, 5, (h1 3 4)] h1 (fun x2 h2 => Q 0 h2)))) : rB d k_TownText_close n0 z0 Q 0 [(3, 3)] [] h :=
  rB_fold (cut := fun i => false) (f := 40) hy
set_option maxRecDepth 100000 in
theorem T_TownText_handOver_0 (d : Nat) (n0 z0 : Int) (Q : Int → mmH → Prop) (h : mmH) (a1 : Int) (hy : Q (h 3 7) (mmS h 3 7 a1)) : rB d k_TownText_handOver n0 z0 Q 0 [(3, 3), (3, a1), (0, 0)] [] h :=
  rB_fold (cut := fun i => false) (f := 40) hy
set_option maxRecDepth 100000 in
theorem T_Roofs_begin_0 (d : Nat) (n0 z0 : Int) (Q : Int → mmH → Prop) (h : mmH) (a1 : Int) (hy : rB d k_Roofs_begin n0 z0 Q 1 [(3, 86), (3, a1), (1, 0)] [] (mmS (mmS (mmS h 86 0 0) 86 1 0) 86 2 0)) : rB d k_Roofs_begin n0 z0 Q 0 [(3, 86), (3, a1), (0, 0)] [] h :=
  rB_fold (cut := fun i => Nat.beq i 1 || Nat.beq i 3 || Nat.beq i 5) (f := 40) hy
set_option maxRecDepth 100000 in
theorem T_Roofs_begin_1 (d : Nat) (n0 z0 : Int) (Q : Int → mmH → Prop) (h : mmH) (v1 : Int) (v2 : Int) (hy : mmG (Nat.beq (tSh v1).1 2) ((((tFc v1 1).getD (h v1 1)) ≤ v2 → rB d k_Roofs_begin n0 z0 Q 3 [(3, 86), (3, v1), (1, 0)] [] h) ∧ (¬ (((tFc v1 1).getD (h v1 1)) ≤ v2) → mmG (Nat.beq (tSh v1).1 2) (mmG (Nat.beq (tSh ((tFc v1 9).getD (h v1 9))).1 104) (mmD ((0 : Int) ≤ v2 ∧ v2 < ((tSh ((tFc v1 9).getD (h v1 9))).2 : Int)) inferInstance (mmG (Nat.beq (tSh ((tFc ((tFc v1 9).getD (h v1 9)) v2).getD (h ((tFc v1 9).getD (h v1 9)) v2))).1 100) (mmD ((0 : Int) ≤ 2 ∧ 2 < ((tSh ((tFc ((tFc v1 9).getD (h v1 9)) v2).getD (h ((tFc v1 9).getD (h v1 9)) v2))).2 : Int)) inferInstance (mmD ((0 : Int) ≤ v2 ∧ v2 < ((10 : Nat) : Int)) inferInstance (rB d k_Roofs_begin n0 z0 Q 1 [(3, 86), (3, v1), (1, (mAdd v2 1))] [] (mmS h 87 v2 ((tFc ((tFc ((tFc v1 9).getD (h v1 9)) v2).getD (h ((tFc v1 9).getD (h v1 9)) v2)) 2).getD (h ((tFc ((tFc v1 9).getD (h v1 9)) v2).getD (h ((tFc v1 9).getD (h v1 9)) v2)) 2)))))))))))) : rB d k_Roofs_begin n0 z0 Q 1 [(3, 86), (3, v1), (1, v2)] [] h :=
  rB_fold (cut := fun i => Nat.beq i 1 || Nat.beq i 3 || Nat.beq i 5) (f := 40) hy
set_option maxRecDepth 100000 in
theorem T_Roofs_begin_3 (d : Nat) (n0 z0 : Int) (Q : Int → mmH → Prop) (h : mmH) (v1 : Int) (v2 : Int) (hy : mmG (Nat.beq (tSh v1).1 2) ((((tFc v1 3).getD (h v1 3)) ≤ v2 → rB d k_Roofs_begin n0 z0 Q 5 [(3, 86), (3, v1), (1, 0)] [] h) ∧ (¬ (((tFc v1 3).getD (h v1 3)) ≤ v2) → mmG (Nat.beq (tSh v1).1 2) (mmG (Nat.beq (tSh ((tFc v1 10).getD (h v1 10))).1 104) (mmD ((0 : Int) ≤ v2 ∧ v2 < ((tSh ((tFc v1 10).getD (h v1 10))).2 : Int)) inferInstance (mmG (Nat.beq (tSh ((tFc ((tFc v1 10).getD (h v1 10)) v2).getD (h ((tFc v1 10).getD (h v1 10)) v2))).1 100) (mmD ((0 : Int) ≤ 4 ∧ 4 < ((tSh ((tFc ((tFc v1 10).getD (h v1 10)) v2).getD (h ((tFc v1 10).getD (h v1 10)) v2))).2 : Int)) inferInstance (mmD ((0 : Int) ≤ v2 ∧ v2 < ((6 : Nat) : Int)) inferInstance (mmG (Nat.beq (tSh v1).1 2) (mmG (Nat.beq (tSh ((tFc v1 10).getD ((mmS h 88 v2 ((tFc ((tFc ((tFc v1 10).getD (h v1 10)) v2).getD (h ((tFc v1 10).getD (h v1 10)) v2)) 4).getD (h ((tFc ((tFc v1 10).getD (h v1 10)) v2).getD (h ((tFc v1 10).getD (h v1 10)) v2)) 4))) v1 10))).1 104) (mmD ((0 : Int) ≤ v2 ∧ v2 < ((tSh ((tFc v1 10).getD ((mmS h 88 v2 ((tFc ((tFc ((tFc v1 10).getD (h v1 10)) v2).getD (h ((tFc v1 10).getD (h v1 10)) v2)) 4).getD (h ((tFc ((tFc v1 10).getD (h v1 10)) v2).getD (h ((tFc v1 10).getD (h v1 10)) v2)) 4))) v1 10))).2 : Int)) inferInstance (mmG (Nat.beq (tSh ((tFc ((tFc v1 10).getD ((mmS h 88 v2 ((tFc ((tFc ((tFc v1 10).getD (h v1 10)) v2).getD (h ((tFc v1 10).getD (h v1 10)) v2)) 4).getD (h ((tFc ((tFc v1 10).getD (h v1 10)) v2).getD (h ((tFc v1 10).getD (h v1 10)) v2)) 4))) v1 10)) v2).getD ((mmS h 88 v2 ((tFc ((tFc ((tFc v1 10).getD (h v1 10)) v2).getD (h ((tFc v1 10).getD (h v1 10)) v2)) 4).getD (h ((tFc ((tFc v1 10).getD (h v1 10)) v2).getD (h ((tFc v1 10).getD (h v1 10)) v2)) 4))) ((tFc v1 10).getD ((mmS h 88 v2 ((tFc ((tFc ((tFc v1 10).getD (h v1 10)) v2).getD (h ((tFc v1 10).getD (h v1 10)) v2)) 4).getD (h ((tFc ((tFc v1 10).getD (h v1 10)) v2).getD (h ((tFc v1 10).getD (h v1 10)) v2)) 4))) v1 10)) v2))).1 100) (mmD ((0 : Int) ≤ 5 ∧ 5 < ((tSh ((tFc ((tFc v1 10).getD ((mmS h 88 v2 ((tFc ((tFc ((tFc v1 10).getD (h v1 10)) v2).getD (h ((tFc v1 10).getD (h v1 10)) v2)) 4).getD (h ((tFc ((tFc v1 10).getD (h v1 10)) v2).getD (h ((tFc v1 10).getD (h v1 10)) v2)) 4))) v1 10)) v2).getD ((mmS h 88 v2 ((tFc ((tFc ((tFc v1 10).getD (h v1 10)) v2).getD (h ((tFc v1 10).getD (h v1 10)) v2)) 4).getD (h ((tFc ((tFc v1 10).getD (h v1 10)) v2).getD (h ((tFc v1 10).getD (h v1 10)) v2)) 4))) ((tFc v1 10).getD ((mmS h 88 v2 ((tFc ((tFc ((tFc v1 10).getD (h v1 10)) v2).getD (h ((tFc v1 10).getD (h v1 10)) v2)) 4).getD (h ((tFc ((tFc v1 10).getD (h v1 10)) v2).getD (h ((tFc v1 10).getD (h v1 10)) v2)) 4))) v1 10)) v2))).2 : Int)) inferInstance (mmD ((0 : Int) ≤ v2 ∧ v2 < ((6 : Nat) : Int)) inferInstance (rB d k_Roofs_begin n0 z0 Q 3 [(3, 86), (3, v1), (1, (mAdd v2 1))] [] (mmS (mmS h 88 v2 ((tFc ((tFc ((tFc v1 10).getD (h v1 10)) v2).getD (h ((tFc v1 10).getD (h v1 10)) v2)) 4).getD (h ((tFc ((tFc v1 10).getD (h v1 10)) v2).getD (h ((tFc v1 10).getD (h v1 10)) v2)) 4))) 89 v2 ((tFc ((tFc ((tFc v1 10).getD ((mmS h 88 v2 ((tFc ((tFc ((tFc v1 10).getD (h v1 10)) v2).getD (h ((tFc v1 10).getD (h v1 10)) v2)) 4).getD (h ((tFc ((tFc v1 10).getD (h v1 10)) v2).getD (h ((tFc v1 10).getD (h v1 10)) v2)) 4))) v1 10)) v2).getD ((mmS h 88 v2 ((tFc ((tFc ((tFc v1 10).getD (h v1 10)) v2).getD (h ((tFc v1 10).getD (h v1 10)) v2)) 4).getD (h ((tFc ((tFc v1 10).getD (h v1 10)) v2).getD (h ((tFc v1 10).getD (h v1 10)) v2)) 4))) ((tFc v1 10).getD ((mmS h 88 v2 ((tFc ((tFc ((tFc v1 10).getD (h v1 10)) v2).getD (h ((tFc v1 10).getD (h v1 10)) v2)) 4).getD (h ((tFc ((tFc v1 10).getD (h v1 10)) v2).getD (h ((tFc v1 10).getD (h v1 10)) v2)) 4))) v1 10)) v2)) 5).getD ((mmS h 88 v2 ((tFc ((tFc ((tFc v1 10).getD (h v1 10)) v2).getD (h ((tFc v1 10).getD (h v1 10)) v2)) 4).getD (h ((tFc ((tFc v1 10).getD (h v1 10)) v2).getD (h ((tFc v1 10).getD (h v1 10)) v2)) 4))) ((tFc ((tFc v1 10).getD ((mmS h 88 v2 ((tFc ((tFc ((tFc v1 10).getD (h v1 10)) v2).getD (h ((tFc v1 10).getD (h v1 10)) v2)) 4).getD (h ((tFc ((tFc v1 10).getD (h v1 10)) v2).getD (h ((tFc v1 10).getD (h v1 10)) v2)) 4))) v1 10)) v2).getD ((mmS h 88 v2 ((tFc ((tFc ((tFc v1 10).getD (h v1 10)) v2).getD (h ((tFc v1 10).getD (h v1 10)) v2)) 4).getD (h ((tFc ((tFc v1 10).getD (h v1 10)) v2).getD (h ((tFc v1 10).getD (h v1 10)) v2)) 4))) ((tFc v1 10).getD ((mmS h 88 v2 ((tFc ((tFc ((tFc v1 10).getD (h v1 10)) v2).getD (h ((tFc v1 10).getD (h v1 10)) v2)) 4).getD (h ((tFc ((tFc v1 10).getD (h v1 10)) v2).getD (h ((tFc v1 10).getD (h v1 10)) v2)) 4))) v1 10)) v2)) 5)))))))))))))))))) : rB d k_Roofs_begin n0 z0 Q 3 [(3, 86), (3, v1), (1, v2)] [] h :=
  rB_fold (cut := fun i => Nat.beq i 1 || Nat.beq i 3 || Nat.beq i 5) (f := 40) hy
set_option maxRecDepth 100000 in
theorem T_Roofs_begin_5 (d : Nat) (n0 z0 : Int) (Q : Int → mmH → Prop) (h : mmH) (v1 : Int) (v2 : Int) (hy : (5 ≤ v2 → Q 0 h) ∧ (¬ (5 ≤ v2) → mmD ((0 : Int) ≤ v2 ∧ v2 < ((5 : Nat) : Int)) inferInstance (rB d k_Roofs_begin n0 z0 Q 5 [(3, 86), (3, v1), (1, (mAdd v2 1))] [] (mmS h 90 v2 0)))) : rB d k_Roofs_begin n0 z0 Q 5 [(3, 86), (3, v1), (1, v2)] [] h :=
  rB_fold (cut := fun i => Nat.beq i 1 || Nat.beq i 3 || Nat.beq i 5) (f := 40) hy
set_option maxRecDepth 100000 in
theorem T_c_fault_0 (d : Nat) (n0 z0 : Int) (Q : Int → mmH → Prop) (h : mmH) (a1 : Int) (hy : (a1 ≠ 0 → (a1 ≠ 1 → Q (-1) h) ∧ (¬ (a1 ≠ 1) → Q (h 3 1) h)) ∧ (¬ (a1 ≠ 0) → Q (h 3 0) h)) : rB d k_c_fault n0 z0 Q 0 [(3, 1), (1, a1)] [] h :=
  rB_fold (cut := fun i => false) (f := 40) hy
set_option maxRecDepth 100000 in
theorem T_c_has_0 (d : Nat) (n0 z0 : Int) (Q : Int → mmH → Prop) (h : mmH) (a1 : Int) (hy : ((a1 = 0 → mmG (Nat.beq (tSh (h 1 3)).1 2) (Q ((tFc (h 1 3) 0).getD (h (h 1 3) 0)) h)) ∧ ((a1 = (0 + 1) → mmG (Nat.beq (tSh (h 1 3)).1 2) (Q ((tFc (h 1 3) 1).getD (h (h 1 3) 1)) h)) ∧ ((a1 = ((0 + 1) + 1) → mmG (Nat.beq (tSh (h 1 3)).1 2) (Q ((tFc (h 1 3) 2).getD (h (h 1 3) 2)) h)) ∧ ((a1 = (((0 + 1) + 1) + 1) → mmG (Nat.beq (tSh (h 1 3)).1 2) (Q ((tFc (h 1 3) 3).getD (h (h 1 3) 3)) h)) ∧ ((a1 = ((((0 + 1) + 1) + 1) + 1) → mmG (Nat.beq (tSh (h 1 3)).1 2) (mmG (Nat.beq (tSh ((tFc (h 1 3) 12).getD (h (h 1 3) 12))).1 3) (Q ((tFc ((tFc (h 1 3) 12).getD (h (h 1 3) 12)) 0).getD (h ((tFc (h 1 3) 12).getD (h (h 1 3) 12)) 0)) h))) ∧ ((a1 = (((((0 + 1) + 1) + 1) + 1) + 1) → mmG (Nat.beq (tSh (h 1 3)).1 2) (Q ((tFc (h 1 3) 4).getD (h (h 1 3) 4)) h)) ∧ ((a1 = ((((((0 + 1) + 1) + 1) + 1) + 1) + 1) → mmG (Nat.beq (tSh (h 1 3)).1 2) (Q ((tFc (h 1 3) 5).getD (h (h 1 3) 5)) h)) ∧ ((a1 = (((((((0 + 1) + 1) + 1) + 1) + 1) + 1) + 1) → Q (h 86 0) h) ∧ ((a1 = ((((((((0 + 1) + 1) + 1) + 1) + 1) + 1) + 1) + 1) → Q (h 86 1) h) ∧ ((a1 = (((((((((0 + 1) + 1) + 1) + 1) + 1) + 1) + 1) + 1) + 1) → mmG (Nat.beq (tSh (h 1 3)).1 2) (rC d k_Town_allLots [(h 1 3)] h (fun x3 h3 => rC d k_Roofs_tilesOf [86, x3] h3 (fun x4 h4 => Q x4 h4)))) ∧ ((a1 = ((((((((((0 + 1) + 1) + 1) + 1) + 1) + 1) + 1) + 1) + 1) + 1) → mmG (Nat.beq (tSh (h 1 3)).1 2) (rC d k_Roofs_holes [86, ((tFc (h 1 3) 1).getD (h (h 1 3) 1))] h (fun x1 h1 => rC d k_jInteger_bitCount [x1] h1 (fun x2 h2 => Q x2 h2)))) ∧ ((a1 = (((((((((((0 + 1) + 1) + 1) + 1) + 1) + 1) + 1) + 1) + 1) + 1) + 1) → Q (h 86 2) h) ∧ ((a1 = ((((((((((((0 + 1) + 1) + 1) + 1) + 1) + 1) + 1) + 1) + 1) + 1) + 1) + 1) → Q (h 1 7) h) ∧ (True)))))))))))))) ∧ ((a1 < 0 ∨ 0 + ((13 : Nat) : Int) ≤ a1) → Q (-1) h)) : rB d k_c_has n0 z0 Q 0 [(3, 1), (1, a1)] [] h :=
  rB_fold (cut := fun i => false) (f := 40) hy
set_option maxRecDepth 100000 in
theorem T5_Town_allLots_0 (d : Nat) (n0 z0 : Int) (Q : Int → mmH → Prop) (h : mmH)  (hy : Q (mSub (mShl 1 (h 5 1)) 1) h) : rB d k_Town_allLots n0 z0 Q 0 [(3, 5)] [] h :=
  rB_fold (cut := fun i => false) (f := 40) hy
set_option maxRecDepth 100000 in
theorem T46_Town_allLots_0 (d : Nat) (n0 z0 : Int) (Q : Int → mmH → Prop) (h : mmH)  (hy : Q (mSub (mShl 1 (h 46 1)) 1) h) : rB d k_Town_allLots n0 z0 Q 0 [(3, 46)] [] h :=
  rB_fold (cut := fun i => false) (f := 40) hy
set_option maxRecDepth 100000 in
theorem T_Roofs_tilesOf_0 (d : Nat) (n0 z0 : Int) (Q : Int → mmH → Prop) (h : mmH) (a1 : Int) (hy : rB d k_Roofs_tilesOf n0 z0 Q 1 [(3, 86), (1, a1), (1, 0), (1, 0)] [] h) : rB d k_Roofs_tilesOf n0 z0 Q 0 [(3, 86), (1, a1), (0, 0), (0, 0)] [] h :=
  rB_fold (cut := fun i => Nat.beq i 1) (f := 40) hy
set_option maxRecDepth 100000 in
theorem T_Roofs_tilesOf_1 (d : Nat) (n0 z0 : Int) (Q : Int → mmH → Prop) (h : mmH) (v1 : Int) (v2 : Int) (v3 : Int) (hy : (10 ≤ v3 → Q v2 h) ∧ (¬ (10 ≤ v3) → ((mAnd (mShr v1 v3) 1) ≠ 1 → rB d k_Roofs_tilesOf n0 z0 Q 1 [(3, 86), (1, v1), (1, v2), (1, (mAdd v3 1))] [] h) ∧ (¬ ((mAnd (mShr v1 v3) 1) ≠ 1) → mmD ((0 : Int) ≤ v3 ∧ v3 < ((10 : Nat) : Int)) inferInstance (rB d k_Roofs_tilesOf n0 z0 Q 1 [(3, 86), (1, v1), (1, (mAdd v2 (h 87 v3))), (1, (mAdd v3 1))] [] h)))) : rB d k_Roofs_tilesOf n0 z0 Q 1 [(3, 86), (1, v1), (1, v2), (1, v3)] [] h :=
  rB_fold (cut := fun i => Nat.beq i 1) (f := 40) hy
set_option maxRecDepth 100000 in
theorem T_Roofs_holes_0 (d : Nat) (n0 z0 : Int) (Q : Int → mmH → Prop) (h : mmH) (a1 : Int) (hy : rB d k_Roofs_holes n0 z0 Q 1 [(3, 86), (1, a1), (1, 0), (1, 0)] [] h) : rB d k_Roofs_holes n0 z0 Q 0 [(3, 86), (1, a1), (0, 0), (0, 0)] [] h :=
  rB_fold (cut := fun i => Nat.beq i 1) (f := 40) hy
set_option maxRecDepth 100000 in
theorem T_Roofs_holes_1 (d : Nat) (n0 z0 : Int) (Q : Int → mmH → Prop) (h : mmH) (v1 : Int) (v2 : Int) (v3 : Int) (hy : (v1 ≤ v3 → Q v2 h) ∧ (¬ (v1 ≤ v3) → mmD ((0 : Int) ≤ v3 ∧ v3 < ((10 : Nat) : Int)) inferInstance (((h 87 v3) ≠ 0 → rB d k_Roofs_holes n0 z0 Q 1 [(3, 86), (1, v1), (1, v2), (1, (mAdd v3 1))] [] h) ∧ (¬ ((h 87 v3) ≠ 0) → rB d k_Roofs_holes n0 z0 Q 1 [(3, 86), (1, v1), (1, (mOr v2 (mShl 1 v3))), (1, (mAdd v3 1))] [] h)))) : rB d k_Roofs_holes n0 z0 Q 1 [(3, 86), (1, v1), (1, v2), (1, v3)] [] h :=
  rB_fold (cut := fun i => Nat.beq i 1) (f := 40) hy
set_option maxRecDepth 100000 in
theorem T_c_letter_0 (d : Nat) (n0 z0 : Int) (Q : Int → mmH → Prop) (h : mmH) (a1 : Int) (a2 : Int) (a3 : Int) (hy : (a3 < 0 → Q (-1) h) ∧ (¬ (a3 < 0) → (a3 < 6 → (a1 ≠ 0 → rB d k_c_letter n0 z0 Q 3 [(3, 1), (1, a1), (1, a2), (1, a3), (1, 0)] [] h) ∧ (¬ (a1 ≠ 0) → mmG (Nat.beq (tSh (h 1 3)).1 2) (rC d k_Town_isOwner [(h 1 3), a2] h (fun x1 h1 => (x1 = 0 → rB d k_c_letter n0 z0 Q 3 [(3, 1), (1, a1), (1, a2), (1, a3), (1, 0)] [] h1) ∧ (¬ (x1 = 0) → mmG (Nat.beq (tSh (h1 1 3)).1 2) (mmG (Nat.beq (tSh ((tFc (h1 1 3) 6).getD (h1 (h1 1 3) 6))).1 100) (mmD ((0 : Int) ≤ a2 ∧ a2 < ((tSh ((tFc (h1 1 3) 6).getD (h1 (h1 1 3) 6))).2 : Int)) inferInstance ((((tFc ((tFc (h1 1 3) 6).getD (h1 (h1 1 3) 6)) a2).getD (h1 ((tFc (h1 1 3) 6).getD (h1 (h1 1 3) 6)) a2)) ≠ 0 → Q (mAnd (mShr ((tFc ((tFc (h1 1 3) 6).getD (h1 (h1 1 3) 6)) a2).getD (h1 ((tFc (h1 1 3) 6).getD (h1 (h1 1 3) 6)) a2)) (mMul 5 a3)) 31) h1) ∧ (¬ (((tFc ((tFc (h1 1 3) 6).getD (h1 (h1 1 3) 6)) a2).getD (h1 ((tFc (h1 1 3) 6).getD (h1 (h1 1 3) 6)) a2)) ≠ 0) → Q (-1) h1))))))))) ∧ (¬ (a3 < 6) → Q (-1) h))) : rB d k_c_letter n0 z0 Q 0 [(3, 1), (1, a1), (1, a2), (1, a3), (0, 0)] [] h :=
  rB_fold (cut := fun i => Nat.beq i 3 || Nat.beq i 4) (f := 40) hy
set_option maxRecDepth 100000 in
theorem T_c_letter_3 (d : Nat) (n0 z0 : Int) (Q : Int → mmH → Prop) (h : mmH) (v1 : Int) (v2 : Int) (v3 : Int) (v4 : Int) (hy : (v1 ≠ 1 → rB d k_c_letter n0 z0 Q 4 [(3, 1), (1, v1), (1, v2), (1, v3), (1, v4)] [] h) ∧ (¬ (v1 ≠ 1) → mmG (Nat.beq (tSh (h 1 3)).1 2) (rC d k_Town_isLot [(h 1 3), v2] h (fun x1 h1 => (x1 = 0 → rB d k_c_letter n0 z0 Q 4 [(3, 1), (1, v1), (1, v2), (1, v3), (1, v4)] [] h1) ∧ (¬ (x1 = 0) → mmG (Nat.beq (tSh (h1 1 3)).1 2) (mmG (Nat.beq (tSh ((tFc (h1 1 3) 7).getD (h1 (h1 1 3) 7))).1 100) (mmD ((0 : Int) ≤ v2 ∧ v2 < ((tSh ((tFc (h1 1 3) 7).getD (h1 (h1 1 3) 7))).2 : Int)) inferInstance ((((tFc ((tFc (h1 1 3) 7).getD (h1 (h1 1 3) 7)) v2).getD (h1 ((tFc (h1 1 3) 7).getD (h1 (h1 1 3) 7)) v2)) ≠ 0 → Q (mAnd (mShr ((tFc ((tFc (h1 1 3) 7).getD (h1 (h1 1 3) 7)) v2).getD (h1 ((tFc (h1 1 3) 7).getD (h1 (h1 1 3) 7)) v2)) (mMul 5 v3)) 31) h1) ∧ (¬ (((tFc ((tFc (h1 1 3) 7).getD (h1 (h1 1 3) 7)) v2).getD (h1 ((tFc (h1 1 3) 7).getD (h1 (h1 1 3) 7)) v2)) ≠ 0) → Q (-1) h1))))))))) : rB d k_c_letter n0 z0 Q 3 [(3, 1), (1, v1), (1, v2), (1, v3), (1, v4)] [] h :=
  rB_fold (cut := fun i => Nat.beq i 3 || Nat.beq i 4) (f := 40) hy
set_option maxRecDepth 100000 in
theorem T_c_letter_4 (d : Nat) (n0 z0 : Int) (Q : Int → mmH → Prop) (h : mmH) (v1 : Int) (v2 : Int) (v3 : Int) (v4 : Int) (hy : (v1 ≠ 2 → (v4 ≠ 0 → Q (mAnd (mShr v4 (mMul 5 v3)) 31) h) ∧ (¬ (v4 ≠ 0) → Q (-1) h)) ∧ (¬ (v1 ≠ 2) → mmG (Nat.beq (tSh (h 1 3)).1 2) (rC d k_Town_isPerson [(h 1 3), v2] h (fun x1 h1 => (x1 = 0 → (v4 ≠ 0 → Q (mAnd (mShr v4 (mMul 5 v3)) 31) h1) ∧ (¬ (v4 ≠ 0) → Q (-1) h1)) ∧ (¬ (x1 = 0) → mmG (Nat.beq (tSh (h1 1 3)).1 2) (mmG (Nat.beq (tSh ((tFc (h1 1 3) 8).getD (h1 (h1 1 3) 8))).1 100) (mmD ((0 : Int) ≤ v2 ∧ v2 < ((tSh ((tFc (h1 1 3) 8).getD (h1 (h1 1 3) 8))).2 : Int)) inferInstance ((((tFc ((tFc (h1 1 3) 8).getD (h1 (h1 1 3) 8)) v2).getD (h1 ((tFc (h1 1 3) 8).getD (h1 (h1 1 3) 8)) v2)) ≠ 0 → Q (mAnd (mShr ((tFc ((tFc (h1 1 3) 8).getD (h1 (h1 1 3) 8)) v2).getD (h1 ((tFc (h1 1 3) 8).getD (h1 (h1 1 3) 8)) v2)) (mMul 5 v3)) 31) h1) ∧ (¬ (((tFc ((tFc (h1 1 3) 8).getD (h1 (h1 1 3) 8)) v2).getD (h1 ((tFc (h1 1 3) 8).getD (h1 (h1 1 3) 8)) v2)) ≠ 0) → Q (-1) h1))))))))) : rB d k_c_letter n0 z0 Q 4 [(3, 1), (1, v1), (1, v2), (1, v3), (1, v4)] [] h :=
  rB_fold (cut := fun i => Nat.beq i 3 || Nat.beq i 4) (f := 40) hy
set_option maxRecDepth 100000 in
theorem T5_Town_isOwner_0 (d : Nat) (n0 z0 : Int) (Q : Int → mmH → Prop) (h : mmH) (a1 : Int) (hy : (a1 < 0 → Q 0 h) ∧ (¬ (a1 < 0) → ((h 5 0) ≤ a1 → Q 0 h) ∧ (¬ ((h 5 0) ≤ a1) → Q 1 h))) : rB d k_Town_isOwner n0 z0 Q 0 [(3, 5), (1, a1)] [] h :=
  rB_fold (cut := fun i => false) (f := 40) hy
set_option maxRecDepth 100000 in
theorem T46_Town_isOwner_0 (d : Nat) (n0 z0 : Int) (Q : Int → mmH → Prop) (h : mmH) (a1 : Int) (hy : (a1 < 0 → Q 0 h) ∧ (¬ (a1 < 0) → ((h 46 0) ≤ a1 → Q 0 h) ∧ (¬ ((h 46 0) ≤ a1) → Q 1 h))) : rB d k_Town_isOwner n0 z0 Q 0 [(3, 46), (1, a1)] [] h :=
  rB_fold (cut := fun i => false) (f := 40) hy
set_option maxRecDepth 100000 in
theorem T5_Town_isPerson_0 (d : Nat) (n0 z0 : Int) (Q : Int → mmH → Prop) (h : mmH) (a1 : Int) (hy : (a1 < 0 → Q 0 h) ∧ (¬ (a1 < 0) → ((h 5 3) ≤ a1 → Q 0 h) ∧ (¬ ((h 5 3) ≤ a1) → Q 1 h))) : rB d k_Town_isPerson n0 z0 Q 0 [(3, 5), (1, a1)] [] h :=
  rB_fold (cut := fun i => false) (f := 40) hy
set_option maxRecDepth 100000 in
theorem T46_Town_isPerson_0 (d : Nat) (n0 z0 : Int) (Q : Int → mmH → Prop) (h : mmH) (a1 : Int) (hy : (a1 < 0 → Q 0 h) ∧ (¬ (a1 < 0) → ((h 46 3) ≤ a1 → Q 0 h) ∧ (¬ ((h 46 3) ≤ a1) → Q 1 h))) : rB d k_Town_isPerson n0 z0 Q 0 [(3, 46), (1, a1)] [] h :=
  rB_fold (cut := fun i => false) (f := 40) hy
set_option maxRecDepth 100000 in
theorem T_c_lot_0 (d : Nat) (n0 z0 : Int) (Q : Int → mmH → Prop) (h : mmH) (a1 : Int) (a2 : Int) (hy : mmG (Nat.beq (tSh (h 1 3)).1 2) (rC d k_Town_isLot [(h 1 3), a1] h (fun x1 h1 => (x1 ≠ 0 → ((a2 = 0 → mmG (Nat.beq (tSh (h1 1 3)).1 2) (mmG (Nat.beq (tSh ((tFc (h1 1 3) 9).getD (h1 (h1 1 3) 9))).1 104) (mmD ((0 : Int) ≤ a1 ∧ a1 < ((tSh ((tFc (h1 1 3) 9).getD (h1 (h1 1 3) 9))).2 : Int)) inferInstance (mmG (Nat.beq (tSh ((tFc ((tFc (h1 1 3) 9).getD (h1 (h1 1 3) 9)) a1).getD (h1 ((tFc (h1 1 3) 9).getD (h1 (h1 1 3) 9)) a1))).1 100) (mmD ((0 : Int) ≤ a2 ∧ a2 < ((tSh ((tFc ((tFc (h1 1 3) 9).getD (h1 (h1 1 3) 9)) a1).getD (h1 ((tFc (h1 1 3) 9).getD (h1 (h1 1 3) 9)) a1))).2 : Int)) inferInstance (Q ((tFc ((tFc ((tFc (h1 1 3) 9).getD (h1 (h1 1 3) 9)) a1).getD (h1 ((tFc (h1 1 3) 9).getD (h1 (h1 1 3) 9)) a1)) a2).getD (h1 ((tFc ((tFc (h1 1 3) 9).getD (h1 (h1 1 3) 9)) a1).getD (h1 ((tFc (h1 1 3) 9).getD (h1 (h1 1 3) 9)) a1)) a2)) h1)))))) ∧ ((a2 = (0 + 1) → mmG (Nat.beq (tSh (h1 1 3)).1 2) (mmG (Nat.beq (tSh ((tFc (h1 1 3) 9).getD (h1 (h1 1 3) 9))).1 104) (mmD ((0 : Int) ≤ a1 ∧ a1 < ((tSh ((tFc (h1 1 3) 9).getD (h1 (h1 1 3) 9))).2 : Int)) inferInstance (mmG (Nat.beq (tSh ((tFc ((tFc (h1 1 3) 9).getD (h1 (h1 1 3) 9)) a1).getD (h1 ((tFc (h1 1 3) 9).getD (h1 (h1 1 3) 9)) a1))).1 100) (mmD ((0 : Int) ≤ a2 ∧ a2 < ((tSh ((tFc ((tFc (h1 1 3) 9).getD (h1 (h1 1 3) 9)) a1).getD (h1 ((tFc (h1 1 3) 9).getD (h1 (h1 1 3) 9)) a1))).2 : Int)) inferInstance (Q ((tFc ((tFc ((tFc (h1 1 3) 9).getD (h1 (h1 1 3) 9)) a1).getD (h1 ((tFc (h1 1 3) 9).getD (h1 (h1 1 3) 9)) a1)) a2).getD (h1 ((tFc ((tFc (h1 1 3) 9).getD (h1 (h1 1 3) 9)) a1).getD (h1 ((tFc (h1 1 3) 9).getD (h1 (h1 1 3) 9)) a1)) a2)) h1)))))) ∧ ((a2 = ((0 + 1) + 1) → mmD ((0 : Int) ≤ a1 ∧ a1 < ((10 : Nat) : Int)) inferInstance (Q (h1 87 a1) h1)) ∧ ((a2 = (((0 + 1) + 1) + 1) → mmG (Nat.beq (tSh (h1 1 3)).1 2) (mmG (Nat.beq (tSh ((tFc (h1 1 3) 9).getD (h1 (h1 1 3) 9))).1 104) (mmD ((0 : Int) ≤ a1 ∧ a1 < ((tSh ((tFc (h1 1 3) 9).getD (h1 (h1 1 3) 9))).2 : Int)) inferInstance (mmG (Nat.beq (tSh ((tFc ((tFc (h1 1 3) 9).getD (h1 (h1 1 3) 9)) a1).getD (h1 ((tFc (h1 1 3) 9).getD (h1 (h1 1 3) 9)) a1))).1 100) (mmD ((0 : Int) ≤ a2 ∧ a2 < ((tSh ((tFc ((tFc (h1 1 3) 9).getD (h1 (h1 1 3) 9)) a1).getD (h1 ((tFc (h1 1 3) 9).getD (h1 (h1 1 3) 9)) a1))).2 : Int)) inferInstance (Q ((tFc ((tFc ((tFc (h1 1 3) 9).getD (h1 (h1 1 3) 9)) a1).getD (h1 ((tFc (h1 1 3) 9).getD (h1 (h1 1 3) 9)) a1)) a2).getD (h1 ((tFc ((tFc (h1 1 3) 9).getD (h1 (h1 1 3) 9)) a1).getD (h1 ((tFc (h1 1 3) 9).getD (h1 (h1 1 3) 9)) a1)) a2)) h1)))))) ∧ ((a2 = ((((0 + 1) + 1) + 1) + 1) → mmG (Nat.beq (tSh (h1 1 3)).1 2) (mmG (Nat.beq (tSh ((tFc (h1 1 3) 9).getD (h1 (h1 1 3) 9))).1 104) (mmD ((0 : Int) ≤ a1 ∧ a1 < ((tSh ((tFc (h1 1 3) 9).getD (h1 (h1 1 3) 9))).2 : Int)) inferInstance (mmG (Nat.beq (tSh ((tFc ((tFc (h1 1 3) 9).getD (h1 (h1 1 3) 9)) a1).getD (h1 ((tFc (h1 1 3) 9).getD (h1 (h1 1 3) 9)) a1))).1 100) (mmD ((0 : Int) ≤ a2 ∧ a2 < ((tSh ((tFc ((tFc (h1 1 3) 9).getD (h1 (h1 1 3) 9)) a1).getD (h1 ((tFc (h1 1 3) 9).getD (h1 (h1 1 3) 9)) a1))).2 : Int)) inferInstance (Q ((tFc ((tFc ((tFc (h1 1 3) 9).getD (h1 (h1 1 3) 9)) a1).getD (h1 ((tFc (h1 1 3) 9).getD (h1 (h1 1 3) 9)) a1)) a2).getD (h1 ((tFc ((tFc (h1 1 3) 9).getD (h1 (h1 1 3) 9)) a1).getD (h1 ((tFc (h1 1 3) 9).getD (h1 (h1 1 3) 9)) a1)) a2)) h1)))))) ∧ ((a2 = (((((0 + 1) + 1) + 1) + 1) + 1) → rC d k_c_guests [1, a1] h1 (fun x3 h3 => Q x3 h3)) ∧ ((a2 = ((((((0 + 1) + 1) + 1) + 1) + 1) + 1) → rC d k_c_isFull [1, a1] h1 (fun x2 h2 => (x2 = 0 → Q 0 h2) ∧ (¬ (x2 = 0) → Q 1 h2))) ∧ (True)))))))) ∧ ((a2 < 0 ∨ 0 + ((7 : Nat) : Int) ≤ a2) → Q (-1) h1)) ∧ (¬ (x1 ≠ 0) → Q (-1) h1)))) : rB d k_c_lot n0 z0 Q 0 [(3, 1), (1, a1), (1, a2)] [] h :=
  rB_fold (cut := fun i => false) (f := 40) hy
set_option maxRecDepth 100000 in
theorem T_c_guests_0 (d : Nat) (n0 z0 : Int) (Q : Int → mmH → Prop) (h : mmH) (a1 : Int) (hy : rB d k_c_guests n0 z0 Q 1 [(3, 1), (1, a1), (1, 0), (1, 0)] [] h) : rB d k_c_guests n0 z0 Q 0 [(3, 1), (1, a1), (0, 0), (0, 0)] [] h :=
  rB_fold (cut := fun i => Nat.beq i 1) (f := 40) hy
set_option maxRecDepth 100000 in
theorem T_c_guests_1 (d : Nat) (n0 z0 : Int) (Q : Int → mmH → Prop) (h : mmH) (v1 : Int) (v2 : Int) (v3 : Int) (hy : mmG (Nat.beq (tSh (h 1 3)).1 2) ((((tFc (h 1 3) 3).getD (h (h 1 3) 3)) ≤ v3 → Q v2 h) ∧ (¬ (((tFc (h 1 3) 3).getD (h (h 1 3) 3)) ≤ v3) → mmD ((0 : Int) ≤ v3 ∧ v3 < ((6 : Nat) : Int)) inferInstance (((h 88 v3) ≠ v1 → rB d k_c_guests n0 z0 Q 1 [(3, 1), (1, v1), (1, v2), (1, (mAdd v3 1))] [] h) ∧ (¬ ((h 88 v3) ≠ v1) → rB d k_c_guests n0 z0 Q 1 [(3, 1), (1, v1), (1, (mAdd v2 1)), (1, (mAdd v3 1))] [] h))))) : rB d k_c_guests n0 z0 Q 1 [(3, 1), (1, v1), (1, v2), (1, v3)] [] h :=
  rB_fold (cut := fun i => Nat.beq i 1) (f := 40) hy
set_option maxRecDepth 100000 in
theorem T_c_isFull_0 (d : Nat) (n0 z0 : Int) (Q : Int → mmH → Prop) (h : mmH) (a1 : Int) (hy : mmG (Nat.beq (tSh (h 1 3)).1 2) (mmG (Nat.beq (tSh ((tFc (h 1 3) 9).getD (h (h 1 3) 9))).1 104) (mmD ((0 : Int) ≤ a1 ∧ a1 < ((tSh ((tFc (h 1 3) 9).getD (h (h 1 3) 9))).2 : Int)) inferInstance (mmG (Nat.beq (tSh ((tFc ((tFc (h 1 3) 9).getD (h (h 1 3) 9)) a1).getD (h ((tFc (h 1 3) 9).getD (h (h 1 3) 9)) a1))).1 100) (mmD ((0 : Int) ≤ 3 ∧ 3 < ((tSh ((tFc ((tFc (h 1 3) 9).getD (h (h 1 3) 9)) a1).getD (h ((tFc (h 1 3) 9).getD (h (h 1 3) 9)) a1))).2 : Int)) inferInstance ((((tFc ((tFc ((tFc (h 1 3) 9).getD (h (h 1 3) 9)) a1).getD (h ((tFc (h 1 3) 9).getD (h (h 1 3) 9)) a1)) 3).getD (h ((tFc ((tFc (h 1 3) 9).getD (h (h 1 3) 9)) a1).getD (h ((tFc (h 1 3) 9).getD (h (h 1 3) 9)) a1)) 3)) ≤ 0 → Q 0 h) ∧ (¬ (((tFc ((tFc ((tFc (h 1 3) 9).getD (h (h 1 3) 9)) a1).getD (h ((tFc (h 1 3) 9).getD (h (h 1 3) 9)) a1)) 3).getD (h ((tFc ((tFc (h 1 3) 9).getD (h (h 1 3) 9)) a1).getD (h ((tFc (h 1 3) 9).getD (h (h 1 3) 9)) a1)) 3)) ≤ 0) → rC d k_c_guests [1, a1] h (fun x1 h1 => (x1 < ((tFc ((tFc ((tFc (h 1 3) 9).getD (h (h 1 3) 9)) a1).getD (h ((tFc (h 1 3) 9).getD (h (h 1 3) 9)) a1)) 3).getD (h ((tFc ((tFc (h 1 3) 9).getD (h (h 1 3) 9)) a1).getD (h ((tFc (h 1 3) 9).getD (h (h 1 3) 9)) a1)) 3)) → Q 0 h1) ∧ (¬ (x1 < ((tFc ((tFc ((tFc (h 1 3) 9).getD (h (h 1 3) 9)) a1).getD (h ((tFc (h 1 3) 9).getD (h (h 1 3) 9)) a1)) 3).getD (h ((tFc ((tFc (h 1 3) 9).getD (h (h 1 3) 9)) a1).getD (h ((tFc (h 1 3) 9).getD (h (h 1 3) 9)) a1)) 3))) → Q 1 h1))))))))) : rB d k_c_isFull n0 z0 Q 0 [(3, 1), (1, a1), (0, 0)] [] h :=
  rB_fold (cut := fun i => false) (f := 40) hy
set_option maxRecDepth 100000 in
theorem T_c_gap_0 (d : Nat) (n0 z0 : Int) (Q : Int → mmH → Prop) (h : mmH) (a1 : Int) (a2 : Int) (hy : mmG (Nat.beq (tSh (h 1 3)).1 2) (rC d k_Town_wideOf [(h 1 3), a1, a2] h (fun x1 h1 => Q x1 h1))) : rB d k_c_gap n0 z0 Q 0 [(3, 1), (1, a1), (1, a2)] [] h :=
  rB_fold (cut := fun i => false) (f := 40) hy
set_option maxRecDepth 100000 in
theorem T_c_person_0 (d : Nat) (n0 z0 : Int) (Q : Int → mmH → Prop) (h : mmH) (a1 : Int) (a2 : Int) (hy : mmG (Nat.beq (tSh (h 1 3)).1 2) (rC d k_Town_isPerson [(h 1 3), a1] h (fun x1 h1 => (x1 ≠ 0 → ((a2 = 0 → mmG (Nat.beq (tSh (h1 1 3)).1 2) (mmG (Nat.beq (tSh ((tFc (h1 1 3) 10).getD (h1 (h1 1 3) 10))).1 104) (mmD ((0 : Int) ≤ a1 ∧ a1 < ((tSh ((tFc (h1 1 3) 10).getD (h1 (h1 1 3) 10))).2 : Int)) inferInstance (mmG (Nat.beq (tSh ((tFc ((tFc (h1 1 3) 10).getD (h1 (h1 1 3) 10)) a1).getD (h1 ((tFc (h1 1 3) 10).getD (h1 (h1 1 3) 10)) a1))).1 100) (mmD ((0 : Int) ≤ a2 ∧ a2 < ((tSh ((tFc ((tFc (h1 1 3) 10).getD (h1 (h1 1 3) 10)) a1).getD (h1 ((tFc (h1 1 3) 10).getD (h1 (h1 1 3) 10)) a1))).2 : Int)) inferInstance (Q ((tFc ((tFc ((tFc (h1 1 3) 10).getD (h1 (h1 1 3) 10)) a1).getD (h1 ((tFc (h1 1 3) 10).getD (h1 (h1 1 3) 10)) a1)) a2).getD (h1 ((tFc ((tFc (h1 1 3) 10).getD (h1 (h1 1 3) 10)) a1).getD (h1 ((tFc (h1 1 3) 10).getD (h1 (h1 1 3) 10)) a1)) a2)) h1)))))) ∧ ((a2 = (0 + 1) → mmG (Nat.beq (tSh (h1 1 3)).1 2) (mmG (Nat.beq (tSh ((tFc (h1 1 3) 10).getD (h1 (h1 1 3) 10))).1 104) (mmD ((0 : Int) ≤ a1 ∧ a1 < ((tSh ((tFc (h1 1 3) 10).getD (h1 (h1 1 3) 10))).2 : Int)) inferInstance (mmG (Nat.beq (tSh ((tFc ((tFc (h1 1 3) 10).getD (h1 (h1 1 3) 10)) a1).getD (h1 ((tFc (h1 1 3) 10).getD (h1 (h1 1 3) 10)) a1))).1 100) (mmD ((0 : Int) ≤ a2 ∧ a2 < ((tSh ((tFc ((tFc (h1 1 3) 10).getD (h1 (h1 1 3) 10)) a1).getD (h1 ((tFc (h1 1 3) 10).getD (h1 (h1 1 3) 10)) a1))).2 : Int)) inferInstance (Q ((tFc ((tFc ((tFc (h1 1 3) 10).getD (h1 (h1 1 3) 10)) a1).getD (h1 ((tFc (h1 1 3) 10).getD (h1 (h1 1 3) 10)) a1)) a2).getD (h1 ((tFc ((tFc (h1 1 3) 10).getD (h1 (h1 1 3) 10)) a1).getD (h1 ((tFc (h1 1 3) 10).getD (h1 (h1 1 3) 10)) a1)) a2)) h1)))))) ∧ ((a2 = ((0 + 1) + 1) → mmG (Nat.beq (tSh (h1 1 3)).1 2) (mmG (Nat.beq (tSh ((tFc (h1 1 3) 10).getD (h1 (h1 1 3) 10))).1 104) (mmD ((0 : Int) ≤ a1 ∧ a1 < ((tSh ((tFc (h1 1 3) 10).getD (h1 (h1 1 3) 10))).2 : Int)) inferInstance (mmG (Nat.beq (tSh ((tFc ((tFc (h1 1 3) 10).getD (h1 (h1 1 3) 10)) a1).getD (h1 ((tFc (h1 1 3) 10).getD (h1 (h1 1 3) 10)) a1))).1 100) (mmD ((0 : Int) ≤ a2 ∧ a2 < ((tSh ((tFc ((tFc (h1 1 3) 10).getD (h1 (h1 1 3) 10)) a1).getD (h1 ((tFc (h1 1 3) 10).getD (h1 (h1 1 3) 10)) a1))).2 : Int)) inferInstance (Q ((tFc ((tFc ((tFc (h1 1 3) 10).getD (h1 (h1 1 3) 10)) a1).getD (h1 ((tFc (h1 1 3) 10).getD (h1 (h1 1 3) 10)) a1)) a2).getD (h1 ((tFc ((tFc (h1 1 3) 10).getD (h1 (h1 1 3) 10)) a1).getD (h1 ((tFc (h1 1 3) 10).getD (h1 (h1 1 3) 10)) a1)) a2)) h1)))))) ∧ ((a2 = (((0 + 1) + 1) + 1) → mmG (Nat.beq (tSh (h1 1 3)).1 2) (mmG (Nat.beq (tSh ((tFc (h1 1 3) 10).getD (h1 (h1 1 3) 10))).1 104) (mmD ((0 : Int) ≤ a1 ∧ a1 < ((tSh ((tFc (h1 1 3) 10).getD (h1 (h1 1 3) 10))).2 : Int)) inferInstance (mmG (Nat.beq (tSh ((tFc ((tFc (h1 1 3) 10).getD (h1 (h1 1 3) 10)) a1).getD (h1 ((tFc (h1 1 3) 10).getD (h1 (h1 1 3) 10)) a1))).1 100) (mmD ((0 : Int) ≤ a2 ∧ a2 < ((tSh ((tFc ((tFc (h1 1 3) 10).getD (h1 (h1 1 3) 10)) a1).getD (h1 ((tFc (h1 1 3) 10).getD (h1 (h1 1 3) 10)) a1))).2 : Int)) inferInstance (Q ((tFc ((tFc ((tFc (h1 1 3) 10).getD (h1 (h1 1 3) 10)) a1).getD (h1 ((tFc (h1 1 3) 10).getD (h1 (h1 1 3) 10)) a1)) a2).getD (h1 ((tFc ((tFc (h1 1 3) 10).getD (h1 (h1 1 3) 10)) a1).getD (h1 ((tFc (h1 1 3) 10).getD (h1 (h1 1 3) 10)) a1)) a2)) h1)))))) ∧ ((a2 = ((((0 + 1) + 1) + 1) + 1) → mmD ((0 : Int) ≤ a1 ∧ a1 < ((6 : Nat) : Int)) inferInstance (Q (h1 88 a1) h1)) ∧ ((a2 = (((((0 + 1) + 1) + 1) + 1) + 1) → mmD ((0 : Int) ≤ a1 ∧ a1 < ((6 : Nat) : Int)) inferInstance (Q (h1 89 a1) h1)) ∧ ((a2 = ((((((0 + 1) + 1) + 1) + 1) + 1) + 1) → rC d k_Roofs_ledTo [86, a1] h1 (fun x2 h2 => Q x2 h2)) ∧ (True)))))))) ∧ ((a2 < 0 ∨ 0 + ((7 : Nat) : Int) ≤ a2) → Q (-1) h1)) ∧ (¬ (x1 ≠ 0) → Q (-1) h1)))) : rB d k_c_person n0 z0 Q 0 [(3, 1), (1, a1), (1, a2)] [] h :=
  rB_fold (cut := fun i => false) (f := 40) hy
set_option maxRecDepth 100000 in
theorem T_Roofs_ledTo_0 (d : Nat) (n0 z0 : Int) (Q : Int → mmH → Prop) (h : mmH) (a1 : Int) (hy : rB d k_Roofs_ledTo n0 z0 Q 1 [(3, 86), (1, a1), (1, 0), (1, 0)] [] h) : rB d k_Roofs_ledTo n0 z0 Q 0 [(3, 86), (1, a1), (0, 0), (0, 0)] [] h :=
  rB_fold (cut := fun i => Nat.beq i 1) (f := 40) hy
set_option maxRecDepth 100000 in
theorem T_Roofs_ledTo_1 (d : Nat) (n0 z0 : Int) (Q : Int → mmH → Prop) (h : mmH) (v1 : Int) (v2 : Int) (v3 : Int) (hy : ((h 86 2) ≤ v3 → Q v2 h) ∧ (¬ ((h 86 2) ≤ v3) → mmD ((0 : Int) ≤ v3 ∧ v3 < ((60 : Nat) : Int)) inferInstance (((h 94 v3) ≠ v1 → rB d k_Roofs_ledTo n0 z0 Q 1 [(3, 86), (1, v1), (1, v2), (1, (mAdd v3 1))] [] h) ∧ (¬ ((h 94 v3) ≠ v1) → rB d k_Roofs_ledTo n0 z0 Q 1 [(3, 86), (1, v1), (1, (mAdd v2 1)), (1, (mAdd v3 1))] [] h)))) : rB d k_Roofs_ledTo n0 z0 Q 1 [(3, 86), (1, v1), (1, v2), (1, v3)] [] h :=
  rB_fold (cut := fun i => Nat.beq i 1) (f := 40) hy
set_option maxRecDepth 100000 in
theorem T_c_purse_0 (d : Nat) (n0 z0 : Int) (Q : Int → mmH → Prop) (h : mmH) (a1 : Int) (hy : mmG (Nat.beq (tSh (h 1 3)).1 2) (rC d k_Town_isOwner [(h 1 3), a1] h (fun x1 h1 => (x1 = 0 → Q (-1000000000) h1) ∧ (¬ (x1 = 0) → mmD ((0 : Int) ≤ a1 ∧ a1 < ((5 : Nat) : Int)) inferInstance (Q (h1 90 a1) h1))))) : rB d k_c_purse n0 z0 Q 0 [(3, 1), (1, a1)] [] h :=
  rB_fold (cut := fun i => false) (f := 40) hy
set_option maxRecDepth 100000 in
theorem T_c_toll_0 (d : Nat) (n0 z0 : Int) (Q : Int → mmH → Prop) (h : mmH) (a1 : Int) (a2 : Int) (hy : mmG (Nat.beq (tSh (h 1 3)).1 2) (rC d k_Town_isPerson [(h 1 3), a1] h (fun x1 h1 => (x1 = 0 → Q (-2) h1) ∧ (¬ (x1 = 0) → mmG (Nat.beq (tSh (h1 1 3)).1 2) (rC d k_Town_isLot [(h1 1 3), a2] h1 (fun x2 h2 => (x2 ≠ 0 → mmD ((0 : Int) ≤ a2 ∧ a2 < ((10 : Nat) : Int)) inferInstance (rC d k_Walk_tollAt [96, (h2 1 3), 86, a1, a2, (h2 87 a2)] h2 (fun x3 h3 => Q x3 h3))) ∧ (¬ (x2 ≠ 0) → Q (-2) h2))))))) : rB d k_c_toll n0 z0 Q 0 [(3, 1), (1, a1), (1, a2)] [] h :=
  rB_fold (cut := fun i => false) (f := 40) hy
set_option maxRecDepth 100000 in
theorem T_Walk_tollAt_0 (d : Nat) (n0 z0 : Int) (Q : Int → mmH → Prop) (h : mmH) (a1 : Int) (a2 : Int) (a3 : Int) (a4 : Int) (a5 : Int) (hy : mmG (Nat.beq (tSh a2).1 4) ((((tFc a2 1).getD (h a2 1)) ≤ 0 → mmG (Nat.beq (tSh a1).1 2) (mmG (Nat.beq (tSh a1).1 2) (mmG (Nat.beq (tSh ((tFc a1 10).getD (h a1 10))).1 104) (mmD ((0 : Int) ≤ a3 ∧ a3 < ((tSh ((tFc a1 10).getD (h a1 10))).2 : Int)) inferInstance (mmG (Nat.beq (tSh ((tFc ((tFc a1 10).getD (h a1 10)) a3).getD (h ((tFc a1 10).getD (h a1 10)) a3))).1 100) (mmD ((0 : Int) ≤ 0 ∧ 0 < ((tSh ((tFc ((tFc a1 10).getD (h a1 10)) a3).getD (h ((tFc a1 10).getD (h a1 10)) a3))).2 : Int)) inferInstance (mmG (Nat.beq (tSh a1).1 2) (mmG (Nat.beq (tSh ((tFc a1 10).getD (h a1 10))).1 104) (mmD ((0 : Int) ≤ a3 ∧ a3 < ((tSh ((tFc a1 10).getD (h a1 10))).2 : Int)) inferInstance (mmG (Nat.beq (tSh ((tFc ((tFc a1 10).getD (h a1 10)) a3).getD (h ((tFc a1 10).getD (h a1 10)) a3))).1 100) (mmD ((0 : Int) ≤ 3 ∧ 3 < ((tSh ((tFc ((tFc a1 10).getD (h a1 10)) a3).getD (h ((tFc a1 10).getD (h a1 10)) a3))).2 : Int)) inferInstance (mmG (Nat.beq (tSh ((tFc a1 12).getD (h a1 12))).1 3) (rC d k_Laws_setPerson [((tFc a1 12).getD (h a1 12)), ((tFc ((tFc ((tFc a1 10).getD (h a1 10)) a3).getD (h ((tFc a1 10).getD (h a1 10)) a3)) 0).getD (h ((tFc ((tFc a1 10).getD (h a1 10)) a3).getD (h ((tFc a1 10).getD (h a1 10)) a3)) 0)), ((tFc ((tFc ((tFc a1 10).getD (h a1 10)) a3).getD (h ((tFc a1 10).getD (h a1 10)) a3)) 3).getD (h ((tFc ((tFc a1 10).getD (h a1 10)) a3).getD (h ((tFc a1 10).getD (h a1 10)) a3)) 3))] h (fun x1 h1 => mmG (Nat.beq (tSh a1).1 2) (mmG (Nat.beq (tSh a1).1 2) (mmG (Nat.beq (tSh ((tFc a1 9).getD (h1 a1 9))).1 104) (mmD ((0 : Int) ≤ a4 ∧ a4 < ((tSh ((tFc a1 9).getD (h1 a1 9))).2 : Int)) inferInstance (mmG (Nat.beq (tSh ((tFc ((tFc a1 9).getD (h1 a1 9)) a4).getD (h1 ((tFc a1 9).getD (h1 a1 9)) a4))).1 100) (mmD ((0 : Int) ≤ 1 ∧ 1 < ((tSh ((tFc ((tFc a1 9).getD (h1 a1 9)) a4).getD (h1 ((tFc a1 9).getD (h1 a1 9)) a4))).2 : Int)) inferInstance (mmG (Nat.beq (tSh a2).1 4) (mmG (Nat.beq (tSh ((tFc a1 12).getD (h1 a1 12))).1 3) (rC d k_Laws_setPlace [((tFc a1 12).getD (h1 a1 12)), ((tFc ((tFc ((tFc a1 9).getD (h1 a1 9)) a4).getD (h1 ((tFc a1 9).getD (h1 a1 9)) a4)) 1).getD (h1 ((tFc ((tFc a1 9).getD (h1 a1 9)) a4).getD (h1 ((tFc a1 9).getD (h1 a1 9)) a4)) 1)), a5, ((tFc a2 0).getD (h1 a2 0))] h1 (fun x2 h2 => mmG (Nat.beq (tSh a1).1 2) (mmG (Nat.beq (tSh a1).1 2) (mmG (Nat.beq (tSh ((tFc a1 9).getD (h2 a1 9))).1 104) (mmD ((0 : Int) ≤ a4 ∧ a4 < ((tSh ((tFc a1 9).getD (h2 a1 9))).2 : Int)) inferInstance (mmG (Nat.beq (tSh ((tFc ((tFc a1 9).getD (h2 a1 9)) a4).getD (h2 ((tFc a1 9).getD (h2 a1 9)) a4))).1 100) (mmD ((0 : Int) ≤ 0 ∧ 0 < ((tSh ((tFc ((tFc a1 9).getD (h2 a1 9)) a4).getD (h2 ((tFc a1 9).getD (h2 a1 9)) a4))).2 : Int)) inferInstance (mmG (Nat.beq (tSh ((tFc a1 12).getD (h2 a1 12))).1 3) (rC d k_Laws_due [((tFc a1 12).getD (h2 a1 12)), ((tFc ((tFc ((tFc a1 9).getD (h2 a1 9)) a4).getD (h2 ((tFc a1 9).getD (h2 a1 9)) a4)) 0).getD (h2 ((tFc ((tFc a1 9).getD (h2 a1 9)) a4).getD (h2 ((tFc a1 9).getD (h2 a1 9)) a4)) 0))] h2 (fun x3 h3 => Q x3 h3))))))))))))))))))))))))))))))) ∧ (¬ (((tFc a2 1).getD (h a2 1)) ≤ 0) → Q 0 h))) : rB d k_Walk_tollAt n0 z0 Q 0 [(3, 96), (3, a1), (3, a2), (1, a3), (1, a4), (1, a5)] [] h :=
  rB_fold (cut := fun i => false) (f := 40) hy
set_option maxRecDepth 100000 in
theorem T38_Laws_setPerson_0 (d : Nat) (n0 z0 : Int) (Q : Int → mmH → Prop) (h : mmH) (a1 : Int) (a2 : Int) (hy : Q 0 (mmS (mmS h 38 8 a1) 38 9 a2)) : rB d k_Laws_setPerson n0 z0 Q 0 [(3, 38), (1, a1), (1, a2)] [] h :=
  rB_fold (cut := fun i => false) (f := 40) hy
set_option maxRecDepth 100000 in
theorem T79_Laws_setPerson_0 (d : Nat) (n0 z0 : Int) (Q : Int → mmH → Prop) (h : mmH) (a1 : Int) (a2 : Int) (hy : Q 0 (mmS (mmS h 79 8 a1) 79 9 a2)) : rB d k_Laws_setPerson n0 z0 Q 0 [(3, 79), (1, a1), (1, a2)] [] h :=
  rB_fold (cut := fun i => false) (f := 40) hy
set_option maxRecDepth 100000 in
theorem T38_Laws_setPlace_0 (d : Nat) (n0 z0 : Int) (Q : Int → mmH → Prop) (h : mmH) (a1 : Int) (a2 : Int) (a3 : Int) (hy : Q 0 (mmS (mmS (mmS h 38 10 a1) 38 11 a2) 38 12 a3)) : rB d k_Laws_setPlace n0 z0 Q 0 [(3, 38), (1, a1), (1, a2), (1, a3)] [] h :=
  rB_fold (cut := fun i => false) (f := 40) hy
set_option maxRecDepth 100000 in
theorem T79_Laws_setPlace_0 (d : Nat) (n0 z0 : Int) (Q : Int → mmH → Prop) (h : mmH) (a1 : Int) (a2 : Int) (a3 : Int) (hy : Q 0 (mmS (mmS (mmS h 79 10 a1) 79 11 a2) 79 12 a3)) : rB d k_Laws_setPlace n0 z0 Q 0 [(3, 79), (1, a1), (1, a2), (1, a3)] [] h :=
  rB_fold (cut := fun i => false) (f := 40) hy
set_option maxRecDepth 100000 in
theorem T38_Laws_due_0 (d : Nat) (n0 z0 : Int) (Q : Int → mmH → Prop) (h : mmH) (a1 : Int) (hy : rB d k_Laws_due n0 z0 Q 1 [(3, 38), (1, a1), (1, (-1)), (1, 0), (0, 0)] [] h) : rB d k_Laws_due n0 z0 Q 0 [(3, 38), (1, a1), (0, 0), (0, 0), (0, 0)] [] h :=
  rB_fold (cut := fun i => Nat.beq i 1 || Nat.beq i 3 || Nat.beq i 4) (f := 40) hy
set_option maxRecDepth 100000 in
theorem T38_Laws_due_1 (d : Nat) (n0 z0 : Int) (Q : Int → mmH → Prop) (h : mmH) (v1 : Int) (v2 : Int) (v3 : Int) (w4 : mmV) (hy : ((h 38 0) ≤ v3 → (v2 ≠ (-1) → mmD ((0 : Int) ≤ v2 ∧ v2 < ((8 : Nat) : Int)) inferInstance (mmD ((0 : Int) ≤ v2 ∧ v2 < ((8 : Nat) : Int)) inferInstance (rC d k_Laws_valueOf [38, (h 40 v2), (h 41 v2)] h (fun x1 h1 => Q (mMax 0 (mMin 999 x1)) h1)))) ∧ (¬ (v2 ≠ (-1)) → Q 0 h)) ∧ (¬ ((h 38 0) ≤ v3) → mmD ((0 : Int) ≤ v3 ∧ v3 < ((8 : Nat) : Int)) inferInstance (mmD ((0 : Int) ≤ v3 ∧ v3 < ((8 : Nat) : Int)) inferInstance (((h 40 v3) ≠ (h 41 v3) → rB d k_Laws_due n0 z0 Q 3 [(3, 38), (1, v1), (1, v2), (1, v3), w4] [(1, 0)] h) ∧ (¬ ((h 40 v3) ≠ (h 41 v3)) → rB d k_Laws_due n0 z0 Q 3 [(3, 38), (1, v1), (1, v2), (1, v3), w4] [(1, 1)] h))))) : rB d k_Laws_due n0 z0 Q 1 [(3, 38), (1, v1), (1, v2), (1, v3), w4] [] h :=
  rB_fold (cut := fun i => Nat.beq i 1 || Nat.beq i 3 || Nat.beq i 4) (f := 40) hy
set_option maxRecDepth 100000 in
theorem T38_Laws_due_3 (d : Nat) (n0 z0 : Int) (Q : Int → mmH → Prop) (h : mmH) (v1 : Int) (v2 : Int) (v3 : Int) (w4 : mmV) (s0 : Int) (hy : mmD ((0 : Int) ≤ v3 ∧ v3 < ((8 : Nat) : Int)) inferInstance (((h 39 v3) ≠ v1 → rB d k_Laws_due n0 z0 Q 1 [(3, 38), (1, v1), (1, v2), (1, (mAdd v3 1)), (1, s0)] [] h) ∧ (¬ ((h 39 v3) ≠ v1) → (s0 ≠ 0 → rB d k_Laws_due n0 z0 Q 4 [(3, 38), (1, v1), (1, v2), (1, v3), (1, s0)] [] h) ∧ (¬ (s0 ≠ 0) → (v2 ≠ (-1) → rB d k_Laws_due n0 z0 Q 1 [(3, 38), (1, v1), (1, v2), (1, (mAdd v3 1)), (1, s0)] [] h) ∧ (¬ (v2 ≠ (-1)) → rB d k_Laws_due n0 z0 Q 4 [(3, 38), (1, v1), (1, v2), (1, v3), (1, s0)] [] h))))) : rB d k_Laws_due n0 z0 Q 3 [(3, 38), (1, v1), (1, v2), (1, v3), w4] [(1, s0)] h :=
  rB_fold (cut := fun i => Nat.beq i 1 || Nat.beq i 3 || Nat.beq i 4) (f := 40) hy
set_option maxRecDepth 100000 in
theorem T38_Laws_due_4 (d : Nat) (n0 z0 : Int) (Q : Int → mmH → Prop) (h : mmH) (v1 : Int) (v2 : Int) (v3 : Int) (v4 : Int) (hy : mmD ((0 : Int) ≤ v3 ∧ v3 < ((8 : Nat) : Int)) inferInstance (mmD ((0 : Int) ≤ v3 ∧ v3 < ((8 : Nat) : Int)) inferInstance (rC d k_Laws_valueOf [38, (h 41 v3), (h 42 v3)] h (fun x1 h1 => (x1 = 0 → rB d k_Laws_due n0 z0 Q 1 [(3, 38), (1, v1), (1, v2), (1, (mAdd v3 1)), (1, v4)] [] h1) ∧ (¬ (x1 = 0) → (v4 = 0 → rB d k_Laws_due n0 z0 Q 1 [(3, 38), (1, v1), (1, v3), (1, (mAdd v3 1)), (1, v4)] [] h1) ∧ (¬ (v4 = 0) → Q (-1) h1)))))) : rB d k_Laws_due n0 z0 Q 4 [(3, 38), (1, v1), (1, v2), (1, v3), (1, v4)] [] h :=
  rB_fold (cut := fun i => Nat.beq i 1 || Nat.beq i 3 || Nat.beq i 4) (f := 40) hy
set_option maxRecDepth 100000 in
theorem T79_Laws_due_0 (d : Nat) (n0 z0 : Int) (Q : Int → mmH → Prop) (h : mmH) (a1 : Int) (hy : rB d k_Laws_due n0 z0 Q 1 [(3, 79), (1, a1), (1, (-1)), (1, 0), (0, 0)] [] h) : rB d k_Laws_due n0 z0 Q 0 [(3, 79), (1, a1), (0, 0), (0, 0), (0, 0)] [] h :=
  rB_fold (cut := fun i => Nat.beq i 1 || Nat.beq i 3 || Nat.beq i 4) (f := 40) hy
set_option maxRecDepth 100000 in
theorem T79_Laws_due_1 (d : Nat) (n0 z0 : Int) (Q : Int → mmH → Prop) (h : mmH) (v1 : Int) (v2 : Int) (v3 : Int) (w4 : mmV) (hy : ((h 79 0) ≤ v3 → (v2 ≠ (-1) → mmD ((0 : Int) ≤ v2 ∧ v2 < ((8 : Nat) : Int)) inferInstance (mmD ((0 : Int) ≤ v2 ∧ v2 < ((8 : Nat) : Int)) inferInstance (rC d k_Laws_valueOf [79, (h 81 v2), (h 82 v2)] h (fun x1 h1 => Q (mMax 0 (mMin 999 x1)) h1)))) ∧ (¬ (v2 ≠ (-1)) → Q 0 h)) ∧ (¬ ((h 79 0) ≤ v3) → mmD ((0 : Int) ≤ v3 ∧ v3 < ((8 : Nat) : Int)) inferInstance (mmD ((0 : Int) ≤ v3 ∧ v3 < ((8 : Nat) : Int)) inferInstance (((h 81 v3) ≠ (h 82 v3) → rB d k_Laws_due n0 z0 Q 3 [(3, 79), (1, v1), (1, v2), (1, v3), w4] [(1, 0)] h) ∧ (¬ ((h 81 v3) ≠ (h 82 v3)) → rB d k_Laws_due n0 z0 Q 3 [(3, 79), (1, v1), (1, v2), (1, v3), w4] [(1, 1)] h))))) : rB d k_Laws_due n0 z0 Q 1 [(3, 79), (1, v1), (1, v2), (1, v3), w4] [] h :=
  rB_fold (cut := fun i => Nat.beq i 1 || Nat.beq i 3 || Nat.beq i 4) (f := 40) hy
set_option maxRecDepth 100000 in
theorem T79_Laws_due_3 (d : Nat) (n0 z0 : Int) (Q : Int → mmH → Prop) (h : mmH) (v1 : Int) (v2 : Int) (v3 : Int) (w4 : mmV) (s0 : Int) (hy : mmD ((0 : Int) ≤ v3 ∧ v3 < ((8 : Nat) : Int)) inferInstance (((h 80 v3) ≠ v1 → rB d k_Laws_due n0 z0 Q 1 [(3, 79), (1, v1), (1, v2), (1, (mAdd v3 1)), (1, s0)] [] h) ∧ (¬ ((h 80 v3) ≠ v1) → (s0 ≠ 0 → rB d k_Laws_due n0 z0 Q 4 [(3, 79), (1, v1), (1, v2), (1, v3), (1, s0)] [] h) ∧ (¬ (s0 ≠ 0) → (v2 ≠ (-1) → rB d k_Laws_due n0 z0 Q 1 [(3, 79), (1, v1), (1, v2), (1, (mAdd v3 1)), (1, s0)] [] h) ∧ (¬ (v2 ≠ (-1)) → rB d k_Laws_due n0 z0 Q 4 [(3, 79), (1, v1), (1, v2), (1, v3), (1, s0)] [] h))))) : rB d k_Laws_due n0 z0 Q 3 [(3, 79), (1, v1), (1, v2), (1, v3), w4] [(1, s0)] h :=
  rB_fold (cut := fun i => Nat.beq i 1 || Nat.beq i 3 || Nat.beq i 4) (f := 40) hy
set_option maxRecDepth 100000 in
theorem T79_Laws_due_4 (d : Nat) (n0 z0 : Int) (Q : Int → mmH → Prop) (h : mmH) (v1 : Int) (v2 : Int) (v3 : Int) (v4 : Int) (hy : mmD ((0 : Int) ≤ v3 ∧ v3 < ((8 : Nat) : Int)) inferInstance (mmD ((0 : Int) ≤ v3 ∧ v3 < ((8 : Nat) : Int)) inferInstance (rC d k_Laws_valueOf [79, (h 82 v3), (h 83 v3)] h (fun x1 h1 => (x1 = 0 → rB d k_Laws_due n0 z0 Q 1 [(3, 79), (1, v1), (1, v2), (1, (mAdd v3 1)), (1, v4)] [] h1) ∧ (¬ (x1 = 0) → (v4 = 0 → rB d k_Laws_due n0 z0 Q 1 [(3, 79), (1, v1), (1, v3), (1, (mAdd v3 1)), (1, v4)] [] h1) ∧ (¬ (v4 = 0) → Q (-1) h1)))))) : rB d k_Laws_due n0 z0 Q 4 [(3, 79), (1, v1), (1, v2), (1, v3), (1, v4)] [] h :=
  rB_fold (cut := fun i => Nat.beq i 1 || Nat.beq i 3 || Nat.beq i 4) (f := 40) hy
set_option maxRecDepth 100000 in
theorem T38_Laws_valueOf_0 (d : Nat) (n0 z0 : Int) (Q : Int → mmH → Prop) (h : mmH) (a1 : Int) (a2 : Int) (hy : rB d k_Laws_valueOf n0 z0 Q 1 [(3, 38), (1, a1), (1, a2), (1, 0), (1, a1), (0, 0), (0, 0), (0, 0)] [] h) : rB d k_Laws_valueOf n0 z0 Q 0 [(3, 38), (1, a1), (1, a2), (0, 0), (0, 0), (0, 0), (0, 0), (0, 0)] [] h :=
  rB_fold (cut := fun i => Nat.beq i 1 || Nat.beq i 2 || Nat.beq i 3) (f := 40) hy
set_option maxRecDepth 100000 in
theorem T38_Laws_valueOf_1 (d : Nat) (n0 z0 : Int) (Q : Int → mmH → Prop) (h : mmH) (v1 : Int) (v2 : Int) (v3 : Int) (v4 : Int) (w5 : mmV) (w6 : mmV) (hy : (v2 ≤ v4 → (v3 ≤ 0 → Q 0 h) ∧ (¬ (v3 ≤ 0) → mmD ((0 : Int) ≤ (mSub v3 1) ∧ (mSub v3 1) < ((64 : Nat) : Int)) inferInstance (Q (h 44 (mSub v3 1)) h))) ∧ (¬ (v2 ≤ v4) → (1600 ≤ v4 → (v3 ≤ 0 → Q 0 h) ∧ (¬ (v3 ≤ 0) → mmD ((0 : Int) ≤ (mSub v3 1) ∧ (mSub v3 1) < ((64 : Nat) : Int)) inferInstance (Q (h 44 (mSub v3 1)) h))) ∧ (¬ (1600 ≤ v4) → mmD ((0 : Int) ≤ v4 ∧ v4 < ((1600 : Nat) : Int)) inferInstance (((h 43 v4) ≠ 10225 → rB d k_Laws_valueOf n0 z0 Q 2 [(3, 38), (1, v1), (1, v2), (1, v3), (1, v4), (1, (h 43 v4)), w6, (0, 0)] [] h) ∧ (¬ ((h 43 v4) ≠ 10225) → (v3 ≤ 0 → rB d k_Laws_valueOf n0 z0 Q 1 [(3, 38), (1, v1), (1, v2), (1, v3), (1, (mAdd v4 1)), (1, (h 43 v4)), w6, (0, 0)] [] h) ∧ (¬ (v3 ≤ 0) → mmD ((0 : Int) ≤ (mSub v3 1) ∧ (mSub v3 1) < ((64 : Nat) : Int)) inferInstance (mmD ((0 : Int) ≤ (mSub v3 1) ∧ (mSub v3 1) < ((64 : Nat) : Int)) inferInstance (rB d k_Laws_valueOf n0 z0 Q 1 [(3, 38), (1, v1), (1, v2), (1, v3), (1, (mAdd v4 1)), (1, (h 43 v4)), w6, (0, 0)] [] (mmS h 44 (mSub v3 1) (mSub 1 (h 44 (mSub v3 1)))))))))))) : rB d k_Laws_valueOf n0 z0 Q 1 [(3, 38), (1, v1), (1, v2), (1, v3), (1, v4), w5, w6, (0, 0)] [] h :=
  rB_fold (cut := fun i => Nat.beq i 1 || Nat.beq i 2 || Nat.beq i 3) (f := 40) hy
set_option maxRecDepth 100000 in
theorem T38_Laws_valueOf_2 (d : Nat) (n0 z0 : Int) (Q : Int → mmH → Prop) (h : mmH) (v1 : Int) (v2 : Int) (v3 : Int) (v4 : Int) (v5 : Int) (w6 : mmV) (hy : rC d k_Laws_isJoint [v5] h (fun x1 h1 => (x1 = 0 → rB d k_Laws_valueOf n0 z0 Q 3 [(3, 38), (1, v1), (1, v2), (1, v3), (1, v4), (1, v5), w6, (0, 0)] [] h1) ∧ (¬ (x1 = 0) → (v3 ≤ 1 → rB d k_Laws_valueOf n0 z0 Q 1 [(3, 38), (1, v1), (1, v2), (1, v3), (1, (mAdd v4 1)), (1, v5), w6, (0, 0)] [] h1) ∧ (¬ (v3 ≤ 1) → mmD ((0 : Int) ≤ (mSub (mAdd v3 (-1)) 1) ∧ (mSub (mAdd v3 (-1)) 1) < ((64 : Nat) : Int)) inferInstance (mmD ((0 : Int) ≤ (mAdd v3 (-1)) ∧ (mAdd v3 (-1)) < ((64 : Nat) : Int)) inferInstance (rC d k_Laws_joined [v5, (h1 44 (mSub (mAdd v3 (-1)) 1)), (h1 44 (mAdd v3 (-1)))] h1 (fun x2 h2 => mmD ((0 : Int) ≤ (mSub (mAdd v3 (-1)) 1) ∧ (mSub (mAdd v3 (-1)) 1) < ((64 : Nat) : Int)) inferInstance (rB d k_Laws_valueOf n0 z0 Q 1 [(3, 38), (1, v1), (1, v2), (1, (mAdd v3 (-1))), (1, (mAdd v4 1)), (1, v5), (2, x2), (0, 0)] [] (mmS h2 44 (mSub (mAdd v3 (-1)) 1) (mL2i (mMax (-1000000) (mMin 1000000 x2)))))))))))) : rB d k_Laws_valueOf n0 z0 Q 2 [(3, 38), (1, v1), (1, v2), (1, v3), (1, v4), (1, v5), w6, (0, 0)] [] h :=
  rB_fold (cut := fun i => Nat.beq i 1 || Nat.beq i 2 || Nat.beq i 3) (f := 40) hy
set_option maxRecDepth 100000 in
theorem T38_Laws_valueOf_3 (d : Nat) (n0 z0 : Int) (Q : Int → mmH → Prop) (h : mmH) (v1 : Int) (v2 : Int) (v3 : Int) (v4 : Int) (v5 : Int) (w6 : mmV) (hy : (64 ≤ v3 → rB d k_Laws_valueOf n0 z0 Q 1 [(3, 38), (1, v1), (1, v2), (1, v3), (1, (mAdd v4 1)), (1, v5), w6, (0, 0)] [] h) ∧ (¬ (64 ≤ v3) → rC d k_Laws_single [38, v5] h (fun x1 h1 => mmD ((0 : Int) ≤ v3 ∧ v3 < ((64 : Nat) : Int)) inferInstance (rB d k_Laws_valueOf n0 z0 Q 1 [(3, 38), (1, v1), (1, v2), (1, (mAdd v3 1)), (1, (mAdd v4 1)), (1, v5), w6, (0, 0)] [] (mmS h1 44 v3 x1))))) : rB d k_Laws_valueOf n0 z0 Q 3 [(3, 38), (1, v1), (1, v2), (1, v3), (1, v4), (1, v5), w6, (0, 0)] [] h :=
  rB_fold (cut := fun i => Nat.beq i 1 || Nat.beq i 2 || Nat.beq i 3) (f := 40) hy
set_option maxRecDepth 100000 in
theorem T79_Laws_valueOf_0 (d : Nat) (n0 z0 : Int) (Q : Int → mmH → Prop) (h : mmH) (a1 : Int) (a2 : Int) (hy : rB d k_Laws_valueOf n0 z0 Q 1 [(3, 79), (1, a1), (1, a2), (1, 0), (1, a1), (0, 0), (0, 0), (0, 0)] [] h) : rB d k_Laws_valueOf n0 z0 Q 0 [(3, 79), (1, a1), (1, a2), (0, 0), (0, 0), (0, 0), (0, 0), (0, 0)] [] h :=
  rB_fold (cut := fun i => Nat.beq i 1 || Nat.beq i 2 || Nat.beq i 3) (f := 40) hy
set_option maxRecDepth 100000 in
theorem T79_Laws_valueOf_1 (d : Nat) (n0 z0 : Int) (Q : Int → mmH → Prop) (h : mmH) (v1 : Int) (v2 : Int) (v3 : Int) (v4 : Int) (w5 : mmV) (w6 : mmV) (hy : (v2 ≤ v4 → (v3 ≤ 0 → Q 0 h) ∧ (¬ (v3 ≤ 0) → mmD ((0 : Int) ≤ (mSub v3 1) ∧ (mSub v3 1) < ((64 : Nat) : Int)) inferInstance (Q (h 85 (mSub v3 1)) h))) ∧ (¬ (v2 ≤ v4) → (1600 ≤ v4 → (v3 ≤ 0 → Q 0 h) ∧ (¬ (v3 ≤ 0) → mmD ((0 : Int) ≤ (mSub v3 1) ∧ (mSub v3 1) < ((64 : Nat) : Int)) inferInstance (Q (h 85 (mSub v3 1)) h))) ∧ (¬ (1600 ≤ v4) → mmD ((0 : Int) ≤ v4 ∧ v4 < ((1600 : Nat) : Int)) inferInstance (((h 84 v4) ≠ 10225 → rB d k_Laws_valueOf n0 z0 Q 2 [(3, 79), (1, v1), (1, v2), (1, v3), (1, v4), (1, (h 84 v4)), w6, (0, 0)] [] h) ∧ (¬ ((h 84 v4) ≠ 10225) → (v3 ≤ 0 → rB d k_Laws_valueOf n0 z0 Q 1 [(3, 79), (1, v1), (1, v2), (1, v3), (1, (mAdd v4 1)), (1, (h 84 v4)), w6, (0, 0)] [] h) ∧ (¬ (v3 ≤ 0) → mmD ((0 : Int) ≤ (mSub v3 1) ∧ (mSub v3 1) < ((64 : Nat) : Int)) inferInstance (mmD ((0 : Int) ≤ (mSub v3 1) ∧ (mSub v3 1) < ((64 : Nat) : Int)) inferInstance (rB d k_Laws_valueOf n0 z0 Q 1 [(3, 79), (1, v1), (1, v2), (1, v3), (1, (mAdd v4 1)), (1, (h 84 v4)), w6, (0, 0)] [] (mmS h 85 (mSub v3 1) (mSub 1 (h 85 (mSub v3 1)))))))))))) : rB d k_Laws_valueOf n0 z0 Q 1 [(3, 79), (1, v1), (1, v2), (1, v3), (1, v4), w5, w6, (0, 0)] [] h :=
  rB_fold (cut := fun i => Nat.beq i 1 || Nat.beq i 2 || Nat.beq i 3) (f := 40) hy
set_option maxRecDepth 100000 in
theorem T79_Laws_valueOf_2 (d : Nat) (n0 z0 : Int) (Q : Int → mmH → Prop) (h : mmH) (v1 : Int) (v2 : Int) (v3 : Int) (v4 : Int) (v5 : Int) (w6 : mmV) (hy : rC d k_Laws_isJoint [v5] h (fun x1 h1 => (x1 = 0 → rB d k_Laws_valueOf n0 z0 Q 3 [(3, 79), (1, v1), (1, v2), (1, v3), (1, v4), (1, v5), w6, (0, 0)] [] h1) ∧ (¬ (x1 = 0) → (v3 ≤ 1 → rB d k_Laws_valueOf n0 z0 Q 1 [(3, 79), (1, v1), (1, v2), (1, v3), (1, (mAdd v4 1)), (1, v5), w6, (0, 0)] [] h1) ∧ (¬ (v3 ≤ 1) → mmD ((0 : Int) ≤ (mSub (mAdd v3 (-1)) 1) ∧ (mSub (mAdd v3 (-1)) 1) < ((64 : Nat) : Int)) inferInstance (mmD ((0 : Int) ≤ (mAdd v3 (-1)) ∧ (mAdd v3 (-1)) < ((64 : Nat) : Int)) inferInstance (rC d k_Laws_joined [v5, (h1 85 (mSub (mAdd v3 (-1)) 1)), (h1 85 (mAdd v3 (-1)))] h1 (fun x2 h2 => mmD ((0 : Int) ≤ (mSub (mAdd v3 (-1)) 1) ∧ (mSub (mAdd v3 (-1)) 1) < ((64 : Nat) : Int)) inferInstance (rB d k_Laws_valueOf n0 z0 Q 1 [(3, 79), (1, v1), (1, v2), (1, (mAdd v3 (-1))), (1, (mAdd v4 1)), (1, v5), (2, x2), (0, 0)] [] (mmS h2 85 (mSub (mAdd v3 (-1)) 1) (mL2i (mMax (-1000000) (mMin 1000000 x2)))))))))))) : rB d k_Laws_valueOf n0 z0 Q 2 [(3, 79), (1, v1), (1, v2), (1, v3), (1, v4), (1, v5), w6, (0, 0)] [] h :=
  rB_fold (cut := fun i => Nat.beq i 1 || Nat.beq i 2 || Nat.beq i 3) (f := 40) hy
set_option maxRecDepth 100000 in
theorem T79_Laws_valueOf_3 (d : Nat) (n0 z0 : Int) (Q : Int → mmH → Prop) (h : mmH) (v1 : Int) (v2 : Int) (v3 : Int) (v4 : Int) (v5 : Int) (w6 : mmV) (hy : (64 ≤ v3 → rB d k_Laws_valueOf n0 z0 Q 1 [(3, 79), (1, v1), (1, v2), (1, v3), (1, (mAdd v4 1)), (1, v5), w6, (0, 0)] [] h) ∧ (¬ (64 ≤ v3) → rC d k_Laws_single [79, v5] h (fun x1 h1 => mmD ((0 : Int) ≤ v3 ∧ v3 < ((64 : Nat) : Int)) inferInstance (rB d k_Laws_valueOf n0 z0 Q 1 [(3, 79), (1, v1), (1, v2), (1, (mAdd v3 1)), (1, (mAdd v4 1)), (1, v5), w6, (0, 0)] [] (mmS h1 85 v3 x1))))) : rB d k_Laws_valueOf n0 z0 Q 3 [(3, 79), (1, v1), (1, v2), (1, v3), (1, v4), (1, v5), w6, (0, 0)] [] h :=
  rB_fold (cut := fun i => Nat.beq i 1 || Nat.beq i 2 || Nat.beq i 3) (f := 40) hy
set_option maxRecDepth 100000 in
theorem T_Laws_isJoint_0 (d : Nat) (n0 z0 : Int) (Q : Int → mmH → Prop) (h : mmH) (a0 : Int) (hy : ((a0 = 10223 → Q 1 h) ∧ ((a0 = (10223 + 1) → Q 1 h) ∧ ((a0 = ((10223 + 1) + 1) → rB d k_Laws_isJoint n0 z0 Q 2 [(1, a0)] [] h) ∧ ((a0 = (((10223 + 1) + 1) + 1) → rB d k_Laws_isJoint n0 z0 Q 2 [(1, a0)] [] h) ∧ ((a0 = ((((10223 + 1) + 1) + 1) + 1) → Q 1 h) ∧ ((a0 = (((((10223 + 1) + 1) + 1) + 1) + 1) → Q 1 h) ∧ (True))))))) ∧ ((a0 < 10223 ∨ 10223 + ((6 : Nat) : Int) ≤ a0) → rB d k_Laws_isJoint n0 z0 Q 2 [(1, a0)] [] h)) : rB d k_Laws_isJoint n0 z0 Q 0 [(1, a0)] [] h :=
  rB_fold (cut := fun i => Nat.beq i 2) (f := 40) hy
set_option maxRecDepth 100000 in
theorem T_Laws_isJoint_2 (d : Nat) (n0 z0 : Int) (Q : Int → mmH → Prop) (h : mmH) (v0 : Int) (hy : (v0 < 10000 → Q 0 h) ∧ (¬ (v0 < 10000) → (10200 ≤ v0 → Q 0 h) ∧ (¬ (10200 ≤ v0) → Q 1 h))) : rB d k_Laws_isJoint n0 z0 Q 2 [(1, v0)] [] h :=
  rB_fold (cut := fun i => Nat.beq i 2) (f := 40) hy
set_option maxRecDepth 100000 in
theorem T_Laws_joined_0 (d : Nat) (n0 z0 : Int) (Q : Int → mmH → Prop) (h : mmH) (a0 : Int) (a1 : Int) (a2 : Int) (hy : (a0 = 10042 → Q (nMul a1 a2) h) ∧ (¬ a0 = 10042 → (a0 = 10043 → Q (nAdd a1 a2) h) ∧ (¬ a0 = 10043 → (a0 = 10045 → Q (nSub a1 a2) h) ∧ (¬ a0 = 10045 → (a0 = 10047 → ((mLcmp a2 0) ≠ 0 → mmD (a2 ≠ 0) inferInstance (Q (nFdiv a1 a2) h)) ∧ (¬ ((mLcmp a2 0) ≠ 0) → Q 0 h)) ∧ (¬ a0 = 10047 → (a0 = 10060 → (0 ≤ (mLcmp a1 a2) → Q 0 h) ∧ (¬ (0 ≤ (mLcmp a1 a2)) → Q 1 h)) ∧ (¬ a0 = 10060 → (a0 = 10061 → ((mLcmp a1 a2) ≠ 0 → Q 0 h) ∧ (¬ ((mLcmp a1 a2) ≠ 0) → Q 1 h)) ∧ (¬ a0 = 10061 → (a0 = 10062 → ((mLcmp a1 a2) ≤ 0 → Q 0 h) ∧ (¬ ((mLcmp a1 a2) ≤ 0) → Q 1 h)) ∧ (¬ a0 = 10062 → (a0 = 10223 → Q (nOr a1 a2) h) ∧ (¬ a0 = 10223 → (a0 = 10224 → Q (nAnd a1 a2) h) ∧ (¬ a0 = 10224 → (a0 = 10227 → Q (mMin a1 a2) h) ∧ (¬ a0 = 10227 → (a0 = 10228 → Q (mMax a1 a2) h) ∧ (¬ a0 = 10228 → Q 0 h)))))))))))) : rB d k_Laws_joined n0 z0 Q 0 [(1, a0), (2, a1), (0, 0), (2, a2), (0, 0)] [] h :=
  rB_fold (cut := fun i => false) (f := 40) hy
set_option maxRecDepth 100000 in
theorem T38_Laws_single_0 (d : Nat) (n0 z0 : Int) (Q : Int → mmH → Prop) (h : mmH) (a1 : Int) (hy : (a1 = 10203 → Q (h 38 10) h) ∧ (¬ a1 = 10203 → (a1 = 10204 → Q (h 38 11) h) ∧ (¬ a1 = 10204 → (a1 = 10211 → Q (h 38 8) h) ∧ (¬ a1 = 10211 → (a1 = 10214 → Q (h 38 9) h) ∧ (¬ a1 = 10214 → (a1 = 10222 → Q (h 38 12) h) ∧ (¬ a1 = 10222 → (a1 = 10226 → Q 1 h) ∧ (¬ a1 = 10226 → Q a1 h))))))) : rB d k_Laws_single n0 z0 Q 0 [(3, 38), (1, a1)] [] h :=
  rB_fold (cut := fun i => false) (f := 40) hy
set_option maxRecDepth 100000 in
theorem T79_Laws_single_0 (d : Nat) (n0 z0 : Int) (Q : Int → mmH → Prop) (h : mmH) (a1 : Int) (hy : (a1 = 10203 → Q (h 79 10) h) ∧ (¬ a1 = 10203 → (a1 = 10204 → Q (h 79 11) h) ∧ (¬ a1 = 10204 → (a1 = 10211 → Q (h 79 8) h) ∧ (¬ a1 = 10211 → (a1 = 10214 → Q (h 79 9) h) ∧ (¬ a1 = 10214 → (a1 = 10222 → Q (h 79 12) h) ∧ (¬ a1 = 10222 → (a1 = 10226 → Q 1 h) ∧ (¬ a1 = 10226 → Q a1 h))))))) : rB d k_Laws_single n0 z0 Q 0 [(3, 79), (1, a1)] [] h :=
  rB_fold (cut := fun i => false) (f := 40) hy
set_option maxRecDepth 100000 in
theorem T_c_step_0 (d : Nat) (n0 z0 : Int) (Q : Int → mmH → Prop) (h : mmH) (a1 : Int) (a2 : Int) (a3 : Int) (hy : mmG (Nat.beq (tSh (h 1 3)).1 2) (rC d k_Town_isPerson [(h 1 3), a1] h (fun x1 h1 => (x1 = 0 → Q (-1) h1) ∧ (¬ (x1 = 0) → mmG (Nat.beq (tSh (h1 1 3)).1 2) (rC d k_Town_isLot [(h1 1 3), a2] h1 (fun x2 h2 => (x2 = 0 → Q (-1) h2) ∧ (¬ (x2 = 0) → mmG (Nat.beq (tSh (h2 1 3)).1 2) (rC d k_Town_isLot [(h2 1 3), a3] h2 (fun x3 h3 => (x3 ≠ 0 → rC d k_Walk_look [96, (h3 1 3), 86, a1] h3 (fun x4 h4 => mmD ((0 : Int) ≤ a2 ∧ a2 < ((10 : Nat) : Int)) inferInstance (Q (mAnd (mShr (mAnd (h4 97 a2) (h4 96 3)) a3) 1) h4))) ∧ (¬ (x3 ≠ 0) → Q (-1) h3)))))))))) : rB d k_c_step n0 z0 Q 0 [(3, 1), (1, a1), (1, a2), (1, a3)] [] h :=
  rB_fold (cut := fun i => false) (f := 40) hy
set_option maxRecDepth 100000 in
theorem T_Walk_look_0 (d : Nat) (n0 z0 : Int) (Q : Int → mmH → Prop) (h : mmH) (a1 : Int) (a2 : Int) (a3 : Int) (hy : mmG (Nat.beq (tSh a1).1 2) (mmG (Nat.beq (tSh a2).1 4) (mmG (Nat.beq (tSh ((tFc a2 4).getD ((mmS h 96 0 ((tFc a1 1).getD (h a1 1))) a2 4))).1 100) (mmD ((0 : Int) ≤ a3 ∧ a3 < ((tSh ((tFc a2 4).getD ((mmS h 96 0 ((tFc a1 1).getD (h a1 1))) a2 4))).2 : Int)) inferInstance (mmG (Nat.beq (tSh a2).1 4) (mmG (Nat.beq (tSh ((tFc a2 5).getD ((mmS (mmS h 96 0 ((tFc a1 1).getD (h a1 1))) 96 1 ((tFc ((tFc a2 4).getD ((mmS h 96 0 ((tFc a1 1).getD (h a1 1))) a2 4)) a3).getD ((mmS h 96 0 ((tFc a1 1).getD (h a1 1))) ((tFc a2 4).getD ((mmS h 96 0 ((tFc a1 1).getD (h a1 1))) a2 4)) a3))) a2 5))).1 100) (mmD ((0 : Int) ≤ a3 ∧ a3 < ((tSh ((tFc a2 5).getD ((mmS (mmS h 96 0 ((tFc a1 1).getD (h a1 1))) 96 1 ((tFc ((tFc a2 4).getD ((mmS h 96 0 ((tFc a1 1).getD (h a1 1))) a2 4)) a3).getD ((mmS h 96 0 ((tFc a1 1).getD (h a1 1))) ((tFc a2 4).getD ((mmS h 96 0 ((tFc a1 1).getD (h a1 1))) a2 4)) a3))) a2 5))).2 : Int)) inferInstance (rB d k_Walk_look n0 z0 Q 1 [(3, 96), (3, a1), (3, a2), (1, a3), (1, 0)] [] (mmS (mmS (mmS (mmS h 96 0 ((tFc a1 1).getD (h a1 1))) 96 1 ((tFc ((tFc a2 4).getD ((mmS h 96 0 ((tFc a1 1).getD (h a1 1))) a2 4)) a3).getD ((mmS h 96 0 ((tFc a1 1).getD (h a1 1))) ((tFc a2 4).getD ((mmS h 96 0 ((tFc a1 1).getD (h a1 1))) a2 4)) a3))) 96 2 ((tFc ((tFc a2 5).getD ((mmS (mmS h 96 0 ((tFc a1 1).getD (h a1 1))) 96 1 ((tFc ((tFc a2 4).getD ((mmS h 96 0 ((tFc a1 1).getD (h a1 1))) a2 4)) a3).getD ((mmS h 96 0 ((tFc a1 1).getD (h a1 1))) ((tFc a2 4).getD ((mmS h 96 0 ((tFc a1 1).getD (h a1 1))) a2 4)) a3))) a2 5)) a3).getD ((mmS (mmS h 96 0 ((tFc a1 1).getD (h a1 1))) 96 1 ((tFc ((tFc a2 4).getD ((mmS h 96 0 ((tFc a1 1).getD (h a1 1))) a2 4)) a3).getD ((mmS h 96 0 ((tFc a1 1).getD (h a1 1))) ((tFc a2 4).getD ((mmS h 96 0 ((tFc a1 1).getD (h a1 1))) a2 4)) a3))) ((tFc a2 5).getD ((mmS (mmS h 96 0 ((tFc a1 1).getD (h a1 1))) 96 1 ((tFc ((tFc a2 4).getD ((mmS h 96 0 ((tFc a1 1).getD (h a1 1))) a2 4)) a3).getD ((mmS h 96 0 ((tFc a1 1).getD (h a1 1))) ((tFc a2 4).getD ((mmS h 96 0 ((tFc a1 1).getD (h a1 1))) a2 4)) a3))) a2 5)) a3))) 96 3 0))))))))) : rB d k_Walk_look n0 z0 Q 0 [(3, 96), (3, a1), (3, a2), (1, a3), (0, 0)] [] h :=
  rB_fold (cut := fun i => Nat.beq i 1) (f := 40) hy
set_option maxRecDepth 100000 in
theorem T_Walk_look_1 (d : Nat) (n0 z0 : Int) (Q : Int → mmH → Prop) (h : mmH) (v1 : Int) (v2 : Int) (v3 : Int) (v4 : Int) (hy : ((h 96 0) ≤ v4 → Q 0 h) ∧ (¬ ((h 96 0) ≤ v4) → mmG (Nat.beq (tSh v2).1 4) (mmG (Nat.beq (tSh ((tFc v2 3).getD (h v2 3))).1 100) (mmD ((0 : Int) ≤ v4 ∧ v4 < ((tSh ((tFc v2 3).getD (h v2 3))).2 : Int)) inferInstance (rC d k_Walk_tollAt [96, v1, v2, v3, v4, ((tFc ((tFc v2 3).getD (h v2 3)) v4).getD (h ((tFc v2 3).getD (h v2 3)) v4))] h (fun x1 h1 => mmD ((0 : Int) ≤ v4 ∧ v4 < ((10 : Nat) : Int)) inferInstance (mmG (Nat.beq (tSh v2).1 4) (mmG (Nat.beq (tSh ((tFc v2 3).getD ((mmS h1 98 v4 x1) v2 3))).1 100) (mmD ((0 : Int) ≤ v4 ∧ v4 < ((tSh ((tFc v2 3).getD ((mmS h1 98 v4 x1) v2 3))).2 : Int)) inferInstance ((((tFc ((tFc v2 3).getD ((mmS h1 98 v4 x1) v2 3)) v4).getD ((mmS h1 98 v4 x1) ((tFc v2 3).getD ((mmS h1 98 v4 x1) v2 3)) v4)) ≤ 0 → mmG (Nat.beq (tSh v2).1 4) (rC d k_Walk_hopsFrom [v1, ((tFc v2 1).getD ((mmS h1 98 v4 x1) v2 1)), v3, v4] (mmS h1 98 v4 x1) (fun x2 h2 => mmD ((0 : Int) ≤ v4 ∧ v4 < ((10 : Nat) : Int)) inferInstance (rB d k_Walk_look n0 z0 Q 1 [(3, 96), (3, v1), (3, v2), (1, v3), (1, (mAdd v4 1))] [] (mmS h2 97 v4 x2))))) ∧ (¬ (((tFc ((tFc v2 3).getD ((mmS h1 98 v4 x1) v2 3)) v4).getD ((mmS h1 98 v4 x1) ((tFc v2 3).getD ((mmS h1 98 v4 x1) v2 3)) v4)) ≤ 0) → mmD ((0 : Int) ≤ v4 ∧ v4 < ((10 : Nat) : Int)) inferInstance ((((mmS h1 98 v4 x1) 98 v4) = (-1) → mmG (Nat.beq (tSh v2).1 4) (rC d k_Walk_hopsFrom [v1, ((tFc v2 1).getD ((mmS h1 98 v4 x1) v2 1)), v3, v4] (mmS h1 98 v4 x1) (fun x3 h3 => mmD ((0 : Int) ≤ v4 ∧ v4 < ((10 : Nat) : Int)) inferInstance (rB d k_Walk_look n0 z0 Q 1 [(3, 96), (3, v1), (3, v2), (1, v3), (1, (mAdd v4 1))] [] (mmS h3 97 v4 x3))))) ∧ (¬ (((mmS h1 98 v4 x1) 98 v4) = (-1)) → mmG (Nat.beq (tSh v2).1 4) (rC d k_Walk_hopsFrom [v1, ((tFc v2 1).getD ((mmS (mmS h1 98 v4 x1) 96 3 (mOr (h1 96 3) (mShl 1 v4))) v2 1)), v3, v4] (mmS (mmS h1 98 v4 x1) 96 3 (mOr (h1 96 3) (mShl 1 v4))) (fun x4 h4 => mmD ((0 : Int) ≤ v4 ∧ v4 < ((10 : Nat) : Int)) inferInstance (rB d k_Walk_look n0 z0 Q 1 [(3, 96), (3, v1), (3, v2), (1, v3), (1, (mAdd v4 1))] [] (mmS h4 97 v4 x4))))))))))))))))) : rB d k_Walk_look n0 z0 Q 1 [(3, 96), (3, v1), (3, v2), (1, v3), (1, v4)] [] h :=
  rB_fold (cut := fun i => Nat.beq i 1) (f := 40) hy
end
section
/-! ===== mm: trees, by program ===== -/
set_option maxRecDepth 100000 in
theorem T_Walk_hopsFrom_0 (d : Nat) (n0 z0 : Int) (Q : Int → mmH → Prop) (h : mmH) (a0 : Int) (a1 : Int) (a2 : Int) (a3 : Int) (hy : mmG (Nat.beq (tSh a0).1 2) (mmG (Nat.beq (tSh ((tFc a0 10).getD (h a0 10))).1 104) (mmD ((0 : Int) ≤ a2 ∧ a2 < ((tSh ((tFc a0 10).getD (h a0 10))).2 : Int)) inferInstance (mmG (Nat.beq (tSh ((tFc ((tFc a0 10).getD (h a0 10)) a2).getD (h ((tFc a0 10).getD (h a0 10)) a2))).1 100) (mmD ((0 : Int) ≤ 1 ∧ 1 < ((tSh ((tFc ((tFc a0 10).getD (h a0 10)) a2).getD (h ((tFc a0 10).getD (h a0 10)) a2))).2 : Int)) inferInstance (mmG (Nat.beq (tSh a0).1 2) (mmG (Nat.beq (tSh ((tFc a0 10).getD (h a0 10))).1 104) (mmD ((0 : Int) ≤ a2 ∧ a2 < ((tSh ((tFc a0 10).getD (h a0 10))).2 : Int)) inferInstance (mmG (Nat.beq (tSh ((tFc ((tFc a0 10).getD (h a0 10)) a2).getD (h ((tFc a0 10).getD (h a0 10)) a2))).1 100) (mmD ((0 : Int) ≤ 2 ∧ 2 < ((tSh ((tFc ((tFc a0 10).getD (h a0 10)) a2).getD (h ((tFc a0 10).getD (h a0 10)) a2))).2 : Int)) inferInstance (rB d k_Walk_hopsFrom n0 z0 Q 1 [(3, a0), (1, a1), (1, a2), (1, a3), (1, ((tFc ((tFc ((tFc a0 10).getD (h a0 10)) a2).getD (h ((tFc a0 10).getD (h a0 10)) a2)) 1).getD (h ((tFc ((tFc a0 10).getD (h a0 10)) a2).getD (h ((tFc a0 10).getD (h a0 10)) a2)) 1))), (1, ((tFc ((tFc ((tFc a0 10).getD (h a0 10)) a2).getD (h ((tFc a0 10).getD (h a0 10)) a2)) 2).getD (h ((tFc ((tFc a0 10).getD (h a0 10)) a2).getD (h ((tFc a0 10).getD (h a0 10)) a2)) 2))), (1, 0), (1, 0), (0, 0), (0, 0)] [] h))))))))))) : rB d k_Walk_hopsFrom n0 z0 Q 0 [(3, a0), (1, a1), (1, a2), (1, a3), (0, 0), (0, 0), (0, 0), (0, 0), (0, 0), (0, 0)] [] h :=
  rB_fold (cut := fun i => Nat.beq i 1) (f := 40) hy
set_option maxRecDepth 100000 in
theorem T_Walk_hopsFrom_1 (d : Nat) (n0 z0 : Int) (Q : Int → mmH → Prop) (h : mmH) (v0 : Int) (v1 : Int) (v2 : Int) (v3 : Int) (v4 : Int) (v5 : Int) (v6 : Int) (v7 : Int) (w8 : mmV) (w9 : mmV) (hy : mmG (Nat.beq (tSh v0).1 2) ((((tFc v0 1).getD (h v0 1)) ≤ v7 → Q v6 h) ∧ (¬ (((tFc v0 1).getD (h v0 1)) ≤ v7) → mmG (Nat.beq (tSh v0).1 2) (mmG (Nat.beq (tSh ((tFc v0 11).getD (h v0 11))).1 104) (mmD ((0 : Int) ≤ v3 ∧ v3 < ((tSh ((tFc v0 11).getD (h v0 11))).2 : Int)) inferInstance (mmG (Nat.beq (tSh ((tFc ((tFc v0 11).getD (h v0 11)) v3).getD (h ((tFc v0 11).getD (h v0 11)) v3))).1 100) (mmD ((0 : Int) ≤ v7 ∧ v7 < ((tSh ((tFc ((tFc v0 11).getD (h v0 11)) v3).getD (h ((tFc v0 11).getD (h v0 11)) v3))).2 : Int)) inferInstance (mmG (Nat.beq (tSh v0).1 2) (mmG (Nat.beq (tSh ((tFc v0 9).getD (h v0 9))).1 104) (mmD ((0 : Int) ≤ v7 ∧ v7 < ((tSh ((tFc v0 9).getD (h v0 9))).2 : Int)) inferInstance (mmG (Nat.beq (tSh ((tFc ((tFc v0 9).getD (h v0 9)) v7).getD (h ((tFc v0 9).getD (h v0 9)) v7))).1 100) (mmD ((0 : Int) ≤ 1 ∧ 1 < ((tSh ((tFc ((tFc v0 9).getD (h v0 9)) v7).getD (h ((tFc v0 9).getD (h v0 9)) v7))).2 : Int)) inferInstance (mmG (Nat.beq (tSh v0).1 2) (mmG (Nat.beq (tSh ((tFc v0 9).getD (h v0 9))).1 104) (mmD ((0 : Int) ≤ v3 ∧ v3 < ((tSh ((tFc v0 9).getD (h v0 9))).2 : Int)) inferInstance (mmG (Nat.beq (tSh ((tFc ((tFc v0 9).getD (h v0 9)) v3).getD (h ((tFc v0 9).getD (h v0 9)) v3))).1 100) (mmD ((0 : Int) ≤ 1 ∧ 1 < ((tSh ((tFc ((tFc v0 9).getD (h v0 9)) v3).getD (h ((tFc v0 9).getD (h v0 9)) v3))).2 : Int)) inferInstance ((((tFc ((tFc ((tFc v0 11).getD (h v0 11)) v3).getD (h ((tFc v0 11).getD (h v0 11)) v3)) v7).getD (h ((tFc ((tFc v0 11).getD (h v0 11)) v3).getD (h ((tFc v0 11).getD (h v0 11)) v3)) v7)) = (-1) → rB d k_Walk_hopsFrom n0 z0 Q 1 [(3, v0), (1, v1), (1, v2), (1, v3), (1, v4), (1, v5), (1, v6), (1, (mAdd v7 1)), (1, ((tFc ((tFc ((tFc v0 11).getD (h v0 11)) v3).getD (h ((tFc v0 11).getD (h v0 11)) v3)) v7).getD (h ((tFc ((tFc v0 11).getD (h v0 11)) v3).getD (h ((tFc v0 11).getD (h v0 11)) v3)) v7))), (1, (mSub ((tFc ((tFc ((tFc v0 9).getD (h v0 9)) v7).getD (h ((tFc v0 9).getD (h v0 9)) v7)) 1).getD (h ((tFc ((tFc v0 9).getD (h v0 9)) v7).getD (h ((tFc v0 9).getD (h v0 9)) v7)) 1)) ((tFc ((tFc ((tFc v0 9).getD (h v0 9)) v3).getD (h ((tFc v0 9).getD (h v0 9)) v3)) 1).getD (h ((tFc ((tFc v0 9).getD (h v0 9)) v3).getD (h ((tFc v0 9).getD (h v0 9)) v3)) 1))))] [] h) ∧ (¬ (((tFc ((tFc ((tFc v0 11).getD (h v0 11)) v3).getD (h ((tFc v0 11).getD (h v0 11)) v3)) v7).getD (h ((tFc ((tFc v0 11).getD (h v0 11)) v3).getD (h ((tFc v0 11).getD (h v0 11)) v3)) v7)) = (-1)) → (v4 < (mSub ((tFc ((tFc ((tFc v0 11).getD (h v0 11)) v3).getD (h ((tFc v0 11).getD (h v0 11)) v3)) v7).getD (h ((tFc ((tFc v0 11).getD (h v0 11)) v3).getD (h ((tFc v0 11).getD (h v0 11)) v3)) v7)) v1) → rB d k_Walk_hopsFrom n0 z0 Q 1 [(3, v0), (1, v1), (1, v2), (1, v3), (1, v4), (1, v5), (1, v6), (1, (mAdd v7 1)), (1, ((tFc ((tFc ((tFc v0 11).getD (h v0 11)) v3).getD (h ((tFc v0 11).getD (h v0 11)) v3)) v7).getD (h ((tFc ((tFc v0 11).getD (h v0 11)) v3).getD (h ((tFc v0 11).getD (h v0 11)) v3)) v7))), (1, (mSub ((tFc ((tFc ((tFc v0 9).getD (h v0 9)) v7).getD (h ((tFc v0 9).getD (h v0 9)) v7)) 1).getD (h ((tFc ((tFc v0 9).getD (h v0 9)) v7).getD (h ((tFc v0 9).getD (h v0 9)) v7)) 1)) ((tFc ((tFc ((tFc v0 9).getD (h v0 9)) v3).getD (h ((tFc v0 9).getD (h v0 9)) v3)) 1).getD (h ((tFc ((tFc v0 9).getD (h v0 9)) v3).getD (h ((tFc v0 9).getD (h v0 9)) v3)) 1))))] [] h) ∧ (¬ (v4 < (mSub ((tFc ((tFc ((tFc v0 11).getD (h v0 11)) v3).getD (h ((tFc v0 11).getD (h v0 11)) v3)) v7).getD (h ((tFc ((tFc v0 11).getD (h v0 11)) v3).getD (h ((tFc v0 11).getD (h v0 11)) v3)) v7)) v1)) → (v5 < (mSub ((tFc ((tFc ((tFc v0 9).getD (h v0 9)) v7).getD (h ((tFc v0 9).getD (h v0 9)) v7)) 1).getD (h ((tFc ((tFc v0 9).getD (h v0 9)) v7).getD (h ((tFc v0 9).getD (h v0 9)) v7)) 1)) ((tFc ((tFc ((tFc v0 9).getD (h v0 9)) v3).getD (h ((tFc v0 9).getD (h v0 9)) v3)) 1).getD (h ((tFc ((tFc v0 9).getD (h v0 9)) v3).getD (h ((tFc v0 9).getD (h v0 9)) v3)) 1))) → rB d k_Walk_hopsFrom n0 z0 Q 1 [(3, v0), (1, v1), (1, v2), (1, v3), (1, v4), (1, v5), (1, v6), (1, (mAdd v7 1)), (1, ((tFc ((tFc ((tFc v0 11).getD (h v0 11)) v3).getD (h ((tFc v0 11).getD (h v0 11)) v3)) v7).getD (h ((tFc ((tFc v0 11).getD (h v0 11)) v3).getD (h ((tFc v0 11).getD (h v0 11)) v3)) v7))), (1, (mSub ((tFc ((tFc ((tFc v0 9).getD (h v0 9)) v7).getD (h ((tFc v0 9).getD (h v0 9)) v7)) 1).getD (h ((tFc ((tFc v0 9).getD (h v0 9)) v7).getD (h ((tFc v0 9).getD (h v0 9)) v7)) 1)) ((tFc ((tFc ((tFc v0 9).getD (h v0 9)) v3).getD (h ((tFc v0 9).getD (h v0 9)) v3)) 1).getD (h ((tFc ((tFc v0 9).getD (h v0 9)) v3).getD (h ((tFc v0 9).getD (h v0 9)) v3)) 1))))] [] h) ∧ (¬ (v5 < (mSub ((tFc ((tFc ((tFc v0 9).getD (h v0 9)) v7).getD (h ((tFc v0 9).getD (h v0 9)) v7)) 1).getD (h ((tFc ((tFc v0 9).getD (h v0 9)) v7).getD (h ((tFc v0 9).getD (h v0 9)) v7)) 1)) ((tFc ((tFc ((tFc v0 9).getD (h v0 9)) v3).getD (h ((tFc v0 9).getD (h v0 9)) v3)) 1).getD (h ((tFc ((tFc v0 9).getD (h v0 9)) v3).getD (h ((tFc v0 9).getD (h v0 9)) v3)) 1)))) → rB d k_Walk_hopsFrom n0 z0 Q 1 [(3, v0), (1, v1), (1, v2), (1, v3), (1, v4), (1, v5), (1, (mOr v6 (mShl 1 v7))), (1, (mAdd v7 1)), (1, ((tFc ((tFc ((tFc v0 11).getD (h v0 11)) v3).getD (h ((tFc v0 11).getD (h v0 11)) v3)) v7).getD (h ((tFc ((tFc v0 11).getD (h v0 11)) v3).getD (h ((tFc v0 11).getD (h v0 11)) v3)) v7))), (1, (mSub ((tFc ((tFc ((tFc v0 9).getD (h v0 9)) v7).getD (h ((tFc v0 9).getD (h v0 9)) v7)) 1).getD (h ((tFc ((tFc v0 9).getD (h v0 9)) v7).getD (h ((tFc v0 9).getD (h v0 9)) v7)) 1)) ((tFc ((tFc ((tFc v0 9).getD (h v0 9)) v3).getD (h ((tFc v0 9).getD (h v0 9)) v3)) 1).getD (h ((tFc ((tFc v0 9).getD (h v0 9)) v3).getD (h ((tFc v0 9).getD (h v0 9)) v3)) 1))))] [] h))))))))))))))))))))) : rB d k_Walk_hopsFrom n0 z0 Q 1 [(3, v0), (1, v1), (1, v2), (1, v3), (1, v4), (1, v5), (1, v6), (1, v7), w8, w9] [] h :=
  rB_fold (cut := fun i => Nat.beq i 1) (f := 40) hy
set_option maxRecDepth 100000 in
theorem T_c_way_0 (d : Nat) (n0 z0 : Int) (Q : Int → mmH → Prop) (h : mmH) (a1 : Int) (a2 : Int) (hy : rC d k_c_findsWay [1, a1] h (fun x1 h1 => (x1 ≠ 0 → (a2 ≠ (-1) → (a2 ≠ 20 → (a2 < 0 → Q (-1) h1) ∧ (¬ (a2 < 0) → ((h1 96 5) ≤ a2 → Q (-1) h1) ∧ (¬ ((h1 96 5) ≤ a2) → mmD ((0 : Int) ≤ a2 ∧ a2 < ((10 : Nat) : Int)) inferInstance (Q (h1 99 a2) h1)))) ∧ (¬ (a2 ≠ 20) → Q (h1 96 5) h1)) ∧ (¬ (a2 ≠ (-1)) → Q (h1 96 4) h1)) ∧ (¬ (x1 ≠ 0) → Q (-1) h1))) : rB d k_c_way n0 z0 Q 0 [(3, 1), (1, a1), (1, a2)] [] h :=
  rB_fold (cut := fun i => false) (f := 40) hy
set_option maxRecDepth 100000 in
theorem T_c_findsWay_0 (d : Nat) (n0 z0 : Int) (Q : Int → mmH → Prop) (h : mmH) (a1 : Int) (hy : mmG (Nat.beq (tSh (h 1 3)).1 2) (rC d k_Town_isPerson [(h 1 3), a1] h (fun x1 h1 => (x1 ≠ 0 → rC d k_Walk_look [96, (h1 1 3), 86, a1] h1 (fun x2 h2 => rC d k_Walk_seek [96] h2 (fun x3 h3 => mmG (decide (x3 = 0 ∨ x3 = 1)) (Q x3 h3)))) ∧ (¬ (x1 ≠ 0) → Q 0 h1)))) : rB d k_c_findsWay n0 z0 Q 0 [(3, 1), (1, a1)] [] h :=
  rB_fold (cut := fun i => false) (f := 40) hy
set_option maxRecDepth 100000 in
theorem T_Walk_seek_0 (d : Nat) (n0 z0 : Int) (Q : Int → mmH → Prop) (h : mmH)  (hy : rC d k_Walk_measureRest [96] h (fun x1 h1 => mmD ((0 : Int) ≤ (h1 96 1) ∧ (h1 96 1) < ((10 : Nat) : Int)) inferInstance (((h1 100 (h1 96 1)) < 1000000000 → mmD ((0 : Int) ≤ (h1 96 1) ∧ (h1 96 1) < ((10 : Nat) : Int)) inferInstance (rB d k_Walk_seek n0 z0 Q 2 [(3, 96), (1, (h1 96 1)), (1, 0)] [] (mmS (mmS h1 96 4 (mDiv (h1 100 (h1 96 1)) 16)) 96 5 0))) ∧ (¬ ((h1 100 (h1 96 1)) < 1000000000) → Q 0 h1)))) : rB d k_Walk_seek n0 z0 Q 0 [(3, 96), (0, 0), (0, 0)] [] h :=
  rB_fold (cut := fun i => Nat.beq i 2) (f := 40) hy
set_option maxRecDepth 100000 in
theorem T_Walk_seek_2 (d : Nat) (n0 z0 : Int) (Q : Int → mmH → Prop) (h : mmH) (v1 : Int) (v2 : Int) (hy : (10 ≤ v2 → Q 1 h) ∧ (¬ (10 ≤ v2) → (v1 = (h 96 2) → Q 1 h) ∧ (¬ (v1 = (h 96 2)) → rC d k_Walk_nextFrom [96, v1] h (fun x1 h1 => mmD ((0 : Int) ≤ v2 ∧ v2 < ((10 : Nat) : Int)) inferInstance (rB d k_Walk_seek n0 z0 Q 2 [(3, 96), (1, x1), (1, (mAdd v2 1))] [] (mmS (mmS h1 99 v2 x1) 96 5 (mAdd (h1 96 5) 1))))))) : rB d k_Walk_seek n0 z0 Q 2 [(3, 96), (1, v1), (1, v2)] [] h :=
  rB_fold (cut := fun i => Nat.beq i 2) (f := 40) hy
set_option maxRecDepth 100000 in
theorem T_Walk_measureRest_0 (d : Nat) (n0 z0 : Int) (Q : Int → mmH → Prop) (h : mmH)  (hy : rB d k_Walk_measureRest n0 z0 Q 1 [(3, 96), (1, 0), (0, 0), (0, 0), (0, 0)] [] h) : rB d k_Walk_measureRest n0 z0 Q 0 [(3, 96), (0, 0), (0, 0), (0, 0), (0, 0)] [] h :=
  rB_fold (cut := fun i => Nat.beq i 1 || Nat.beq i 3 || Nat.beq i 4 || Nat.beq i 5) (f := 40) hy
set_option maxRecDepth 100000 in
theorem T_Walk_measureRest_1 (d : Nat) (n0 z0 : Int) (Q : Int → mmH → Prop) (h : mmH) (v1 : Int) (hy : (10 ≤ v1 → mmD ((0 : Int) ≤ (h 96 2) ∧ (h 96 2) < ((10 : Nat) : Int)) inferInstance (rB d k_Walk_measureRest n0 z0 Q 3 [(3, 96), (1, 1), (1, 0), (0, 0), (0, 0)] [] (mmS h 100 (h 96 2) 0))) ∧ (¬ (10 ≤ v1) → mmD ((0 : Int) ≤ v1 ∧ v1 < ((10 : Nat) : Int)) inferInstance (rB d k_Walk_measureRest n0 z0 Q 1 [(3, 96), (1, (mAdd v1 1)), (0, 0), (0, 0), (0, 0)] [] (mmS h 100 v1 1000000000)))) : rB d k_Walk_measureRest n0 z0 Q 1 [(3, 96), (1, v1), (0, 0), (0, 0), (0, 0)] [] h :=
  rB_fold (cut := fun i => Nat.beq i 1 || Nat.beq i 3 || Nat.beq i 4 || Nat.beq i 5) (f := 40) hy
set_option maxRecDepth 100000 in
theorem T_Walk_measureRest_3 (d : Nat) (n0 z0 : Int) (Q : Int → mmH → Prop) (h : mmH) (v1 : Int) (v2 : Int) (w3 : mmV) (w4 : mmV) (hy : (10 ≤ v2 → Q 0 h) ∧ (¬ (10 ≤ v2) → (v1 = 0 → Q 0 h) ∧ (¬ (v1 = 0) → rB d k_Walk_measureRest n0 z0 Q 4 [(3, 96), (1, 0), (1, v2), (1, 0), w4] [] h))) : rB d k_Walk_measureRest n0 z0 Q 3 [(3, 96), (1, v1), (1, v2), w3, w4] [] h :=
  rB_fold (cut := fun i => Nat.beq i 1 || Nat.beq i 3 || Nat.beq i 4 || Nat.beq i 5) (f := 40) hy
set_option maxRecDepth 100000 in
theorem T_Walk_measureRest_4 (d : Nat) (n0 z0 : Int) (Q : Int → mmH → Prop) (h : mmH) (v1 : Int) (v2 : Int) (v3 : Int) (w4 : mmV) (hy : ((h 96 0) ≤ v3 → rB d k_Walk_measureRest n0 z0 Q 3 [(3, 96), (1, v1), (1, (mAdd v2 1)), (1, v3), w4] [] h) ∧ (¬ ((h 96 0) ≤ v3) → rB d k_Walk_measureRest n0 z0 Q 5 [(3, 96), (1, v1), (1, v2), (1, v3), (1, 0)] [] h)) : rB d k_Walk_measureRest n0 z0 Q 4 [(3, 96), (1, v1), (1, v2), (1, v3), w4] [] h :=
  rB_fold (cut := fun i => Nat.beq i 1 || Nat.beq i 3 || Nat.beq i 4 || Nat.beq i 5) (f := 40) hy
set_option maxRecDepth 100000 in
theorem T_Walk_measureRest_5 (d : Nat) (n0 z0 : Int) (Q : Int → mmH → Prop) (h : mmH) (v1 : Int) (v2 : Int) (v3 : Int) (v4 : Int) (hy : ((h 96 0) ≤ v4 → rB d k_Walk_measureRest n0 z0 Q 4 [(3, 96), (1, v1), (1, v2), (1, (mAdd v3 1)), (1, v4)] [] h) ∧ (¬ ((h 96 0) ≤ v4) → rC d k_Walk_restBy [96, v3, v4] h (fun x1 h1 => mmD ((0 : Int) ≤ v3 ∧ v3 < ((10 : Nat) : Int)) inferInstance (((h1 100 v3) ≤ x1 → rB d k_Walk_measureRest n0 z0 Q 5 [(3, 96), (1, v1), (1, v2), (1, v3), (1, (mAdd v4 1))] [] h1) ∧ (¬ ((h1 100 v3) ≤ x1) → rC d k_Walk_restBy [96, v3, v4] h1 (fun x2 h2 => mmD ((0 : Int) ≤ v3 ∧ v3 < ((10 : Nat) : Int)) inferInstance (rB d k_Walk_measureRest n0 z0 Q 5 [(3, 96), (1, 1), (1, v2), (1, v3), (1, (mAdd v4 1))] [] (mmS h2 100 v3 x2)))))))) : rB d k_Walk_measureRest n0 z0 Q 5 [(3, 96), (1, v1), (1, v2), (1, v3), (1, v4)] [] h :=
  rB_fold (cut := fun i => Nat.beq i 1 || Nat.beq i 3 || Nat.beq i 4 || Nat.beq i 5) (f := 40) hy
set_option maxRecDepth 100000 in
theorem T_Walk_restBy_0 (d : Nat) (n0 z0 : Int) (Q : Int → mmH → Prop) (h : mmH) (a1 : Int) (a2 : Int) (hy : mmD ((0 : Int) ≤ a1 ∧ a1 < ((10 : Nat) : Int)) inferInstance (((mAnd (mShr (mAnd (h 97 a1) (h 96 3)) a2) 1) = 0 → Q 1000000000 h) ∧ (¬ ((mAnd (mShr (mAnd (h 97 a1) (h 96 3)) a2) 1) = 0) → mmD ((0 : Int) ≤ a2 ∧ a2 < ((10 : Nat) : Int)) inferInstance (((h 100 a2) < 1000000000 → mmD ((0 : Int) ≤ a2 ∧ a2 < ((10 : Nat) : Int)) inferInstance (mmD ((0 : Int) ≤ a2 ∧ a2 < ((10 : Nat) : Int)) inferInstance (Q (mAdd (mAdd (h 100 a2) (mMul (h 98 a2) 16)) 1) h))) ∧ (¬ ((h 100 a2) < 1000000000) → Q 1000000000 h))))) : rB d k_Walk_restBy n0 z0 Q 0 [(3, 96), (1, a1), (1, a2)] [] h :=
  rB_fold (cut := fun i => false) (f := 40) hy
set_option maxRecDepth 100000 in
theorem T_Walk_nextFrom_0 (d : Nat) (n0 z0 : Int) (Q : Int → mmH → Prop) (h : mmH) (a1 : Int) (hy : rB d k_Walk_nextFrom n0 z0 Q 1 [(3, 96), (1, a1), (1, 0)] [] h) : rB d k_Walk_nextFrom n0 z0 Q 0 [(3, 96), (1, a1), (0, 0)] [] h :=
  rB_fold (cut := fun i => Nat.beq i 1) (f := 40) hy
set_option maxRecDepth 100000 in
theorem T_Walk_nextFrom_1 (d : Nat) (n0 z0 : Int) (Q : Int → mmH → Prop) (h : mmH) (v1 : Int) (v2 : Int) (hy : ((h 96 0) ≤ v2 → Q (h 96 2) h) ∧ (¬ ((h 96 0) ≤ v2) → rC d k_Walk_restBy [96, v1, v2] h (fun x1 h1 => mmD ((0 : Int) ≤ v1 ∧ v1 < ((10 : Nat) : Int)) inferInstance ((x1 ≠ (h1 100 v1) → rB d k_Walk_nextFrom n0 z0 Q 1 [(3, 96), (1, v1), (1, (mAdd v2 1))] [] h1) ∧ (¬ (x1 ≠ (h1 100 v1)) → Q v2 h1))))) : rB d k_Walk_nextFrom n0 z0 Q 1 [(3, 96), (1, v1), (1, v2)] [] h :=
  rB_fold (cut := fun i => Nat.beq i 1) (f := 40) hy
set_option maxRecDepth 100000 in
theorem T_c_leave_0 (d : Nat) (n0 z0 : Int) (Q : Int → mmH → Prop) (h : mmH) (a1 : Int) (a2 : Int) (hy : (a2 < 0 → Q (-1) h) ∧ (¬ (a2 < 0) → (1 < a2 → Q (-1) h) ∧ (¬ (1 < a2) → mmG (Nat.beq (tSh (h 1 3)).1 2) (rC d k_Town_isPerson [(h 1 3), a1] h (fun x1 h1 => (x1 ≠ 0 → rC d k_Walk_look [96, (h1 1 3), 86, a1] h1 (fun x2 h2 => rB d k_c_leave n0 z0 Q 3 [(3, 1), (1, a1), (1, a2), (1, (-1)), (1, 0), (0, 0)] [] h2)) ∧ (¬ (x1 ≠ 0) → Q (-1) h1)))))) : rB d k_c_leave n0 z0 Q 0 [(3, 1), (1, a1), (1, a2), (0, 0), (0, 0), (0, 0)] [] h :=
  rB_fold (cut := fun i => Nat.beq i 3 || Nat.beq i 6) (f := 40) hy
set_option maxRecDepth 100000 in
theorem T_c_leave_3 (d : Nat) (n0 z0 : Int) (Q : Int → mmH → Prop) (h : mmH) (v1 : Int) (v2 : Int) (v3 : Int) (v4 : Int) (w5 : mmV) (hy : mmG (Nat.beq (tSh (h 1 3)).1 2) (((mShl 1 ((tFc (h 1 3) 0).getD (h (h 1 3) 0))) ≤ v4 → rC d k_c_countOrBits [v3, v2] h (fun x1 h1 => Q x1 h1)) ∧ (¬ ((mShl 1 ((tFc (h 1 3) 0).getD (h (h 1 3) 0))) ≤ v4) → (v3 = (-1) → rB d k_c_leave n0 z0 Q 6 [(3, 1), (1, v1), (1, v2), (1, v3), (1, v4), w5] [(1, 1)] h) ∧ (¬ (v3 = (-1)) → rC d k_jInteger_bitCount [v4] h (fun x2 h2 => rC d k_jInteger_bitCount [v3] h2 (fun x3 h3 => (x3 ≤ x2 → rB d k_c_leave n0 z0 Q 6 [(3, 1), (1, v1), (1, v2), (1, v3), (1, v4), w5] [(1, 0)] h3) ∧ (¬ (x3 ≤ x2) → rB d k_c_leave n0 z0 Q 6 [(3, 1), (1, v1), (1, v2), (1, v3), (1, v4), w5] [(1, 1)] h3))))))) : rB d k_c_leave n0 z0 Q 3 [(3, 1), (1, v1), (1, v2), (1, v3), (1, v4), w5] [] h :=
  rB_fold (cut := fun i => Nat.beq i 3 || Nat.beq i 6) (f := 40) hy
set_option maxRecDepth 100000 in
theorem T_c_leave_6 (d : Nat) (n0 z0 : Int) (Q : Int → mmH → Prop) (h : mmH) (v1 : Int) (v2 : Int) (v3 : Int) (v4 : Int) (w5 : mmV) (s0 : Int) (hy : (s0 = 0 → rB d k_c_leave n0 z0 Q 3 [(3, 1), (1, v1), (1, v2), (1, v3), (1, (mAdd v4 1)), (1, s0)] [] h) ∧ (¬ (s0 = 0) → mmG (Nat.beq (tSh (h 1 3)).1 2) (rC d k_Town_lotsOf [(h 1 3), v4] h (fun x1 h1 => rC d k_Walk_arrives [96, (mAnd (h 96 3) x1)] h1 (fun x2 h2 => (x2 = 0 → rB d k_c_leave n0 z0 Q 3 [(3, 1), (1, v1), (1, v2), (1, v3), (1, (mAdd v4 1)), (1, s0)] [] h2) ∧ (¬ (x2 = 0) → rB d k_c_leave n0 z0 Q 3 [(3, 1), (1, v1), (1, v2), (1, v4), (1, (mAdd v4 1)), (1, s0)] [] h2)))))) : rB d k_c_leave n0 z0 Q 6 [(3, 1), (1, v1), (1, v2), (1, v3), (1, v4), w5] [(1, s0)] h :=
  rB_fold (cut := fun i => Nat.beq i 3 || Nat.beq i 6) (f := 40) hy
set_option maxRecDepth 100000 in
theorem T5_Town_lotsOf_0 (d : Nat) (n0 z0 : Int) (Q : Int → mmH → Prop) (h : mmH) (a1 : Int) (hy : rB d k_Town_lotsOf n0 z0 Q 1 [(3, 5), (1, a1), (1, 0), (1, 0)] [] h) : rB d k_Town_lotsOf n0 z0 Q 0 [(3, 5), (1, a1), (0, 0), (0, 0)] [] h :=
  rB_fold (cut := fun i => Nat.beq i 1) (f := 40) hy
set_option maxRecDepth 100000 in
theorem T5_Town_lotsOf_1 (d : Nat) (n0 z0 : Int) (Q : Int → mmH → Prop) (h : mmH) (v1 : Int) (v2 : Int) (v3 : Int) (hy : ((h 5 1) ≤ v3 → Q v2 h) ∧ (¬ ((h 5 1) ≤ v3) → mmD ((0 : Int) ≤ v3 ∧ v3 < ((10 : Nat) : Int)) inferInstance (mmG (Nat.beq (tSh ((tFc 9 v3).getD (h 9 v3))).1 100) (mmD ((0 : Int) ≤ 0 ∧ 0 < ((tSh ((tFc 9 v3).getD (h 9 v3))).2 : Int)) inferInstance (((mAnd (mShr v1 ((tFc ((tFc 9 v3).getD (h 9 v3)) 0).getD (h ((tFc 9 v3).getD (h 9 v3)) 0))) 1) ≠ 1 → rB d k_Town_lotsOf n0 z0 Q 1 [(3, 5), (1, v1), (1, v2), (1, (mAdd v3 1))] [] h) ∧ (¬ ((mAnd (mShr v1 ((tFc ((tFc 9 v3).getD (h 9 v3)) 0).getD (h ((tFc 9 v3).getD (h 9 v3)) 0))) 1) ≠ 1) → rB d k_Town_lotsOf n0 z0 Q 1 [(3, 5), (1, v1), (1, (mOr v2 (mShl 1 v3))), (1, (mAdd v3 1))] [] h)))))) : rB d k_Town_lotsOf n0 z0 Q 1 [(3, 5), (1, v1), (1, v2), (1, v3)] [] h :=
  rB_fold (cut := fun i => Nat.beq i 1) (f := 40) hy
set_option maxRecDepth 100000 in
theorem T46_Town_lotsOf_0 (d : Nat) (n0 z0 : Int) (Q : Int → mmH → Prop) (h : mmH) (a1 : Int) (hy : rB d k_Town_lotsOf n0 z0 Q 1 [(3, 46), (1, a1), (1, 0), (1, 0)] [] h) : rB d k_Town_lotsOf n0 z0 Q 0 [(3, 46), (1, a1), (0, 0), (0, 0)] [] h :=
  rB_fold (cut := fun i => Nat.beq i 1) (f := 40) hy
set_option maxRecDepth 100000 in
theorem T46_Town_lotsOf_1 (d : Nat) (n0 z0 : Int) (Q : Int → mmH → Prop) (h : mmH) (v1 : Int) (v2 : Int) (v3 : Int) (hy : ((h 46 1) ≤ v3 → Q v2 h) ∧ (¬ ((h 46 1) ≤ v3) → mmD ((0 : Int) ≤ v3 ∧ v3 < ((10 : Nat) : Int)) inferInstance (mmG (Nat.beq (tSh ((tFc 50 v3).getD (h 50 v3))).1 100) (mmD ((0 : Int) ≤ 0 ∧ 0 < ((tSh ((tFc 50 v3).getD (h 50 v3))).2 : Int)) inferInstance (((mAnd (mShr v1 ((tFc ((tFc 50 v3).getD (h 50 v3)) 0).getD (h ((tFc 50 v3).getD (h 50 v3)) 0))) 1) ≠ 1 → rB d k_Town_lotsOf n0 z0 Q 1 [(3, 46), (1, v1), (1, v2), (1, (mAdd v3 1))] [] h) ∧ (¬ ((mAnd (mShr v1 ((tFc ((tFc 50 v3).getD (h 50 v3)) 0).getD (h ((tFc 50 v3).getD (h 50 v3)) 0))) 1) ≠ 1) → rB d k_Town_lotsOf n0 z0 Q 1 [(3, 46), (1, v1), (1, (mOr v2 (mShl 1 v3))), (1, (mAdd v3 1))] [] h)))))) : rB d k_Town_lotsOf n0 z0 Q 1 [(3, 46), (1, v1), (1, v2), (1, v3)] [] h :=
  rB_fold (cut := fun i => Nat.beq i 1) (f := 40) hy
set_option maxRecDepth 100000 in
theorem T_Walk_arrives_0 (d : Nat) (n0 z0 : Int) (Q : Int → mmH → Prop) (h : mmH) (a1 : Int) (hy : rC d k_Walk_reached [96, a1] h (fun x1 h1 => ((mAnd (mShr x1 (h1 96 2)) 1) ≠ 1 → Q 0 h1) ∧ (¬ ((mAnd (mShr x1 (h1 96 2)) 1) ≠ 1) → Q 1 h1))) : rB d k_Walk_arrives n0 z0 Q 0 [(3, 96), (1, a1)] [] h :=
  rB_fold (cut := fun i => false) (f := 40) hy
set_option maxRecDepth 100000 in
theorem T_Walk_reached_0 (d : Nat) (n0 z0 : Int) (Q : Int → mmH → Prop) (h : mmH) (a1 : Int) (hy : rB d k_Walk_reached n0 z0 Q 1 [(3, 96), (1, a1), (1, (mShl 1 (h 96 1))), (1, 0), (0, 0), (0, 0)] [] h) : rB d k_Walk_reached n0 z0 Q 0 [(3, 96), (1, a1), (0, 0), (0, 0), (0, 0), (0, 0)] [] h :=
  rB_fold (cut := fun i => Nat.beq i 1 || Nat.beq i 2) (f := 40) hy
set_option maxRecDepth 100000 in
theorem T_Walk_reached_1 (d : Nat) (n0 z0 : Int) (Q : Int → mmH → Prop) (h : mmH) (v1 : Int) (v2 : Int) (v3 : Int) (w4 : mmV) (w5 : mmV) (hy : (10 ≤ v3 → Q v2 h) ∧ (¬ (10 ≤ v3) → rB d k_Walk_reached n0 z0 Q 2 [(3, 96), (1, v1), (1, v2), (1, v3), (1, v2), (1, 0)] [] h)) : rB d k_Walk_reached n0 z0 Q 1 [(3, 96), (1, v1), (1, v2), (1, v3), w4, w5] [] h :=
  rB_fold (cut := fun i => Nat.beq i 1 || Nat.beq i 2) (f := 40) hy
set_option maxRecDepth 100000 in
theorem T_Walk_reached_2 (d : Nat) (n0 z0 : Int) (Q : Int → mmH → Prop) (h : mmH) (v1 : Int) (v2 : Int) (v3 : Int) (v4 : Int) (v5 : Int) (hy : ((h 96 0) ≤ v5 → (v4 ≠ v2 → rB d k_Walk_reached n0 z0 Q 1 [(3, 96), (1, v1), (1, v4), (1, (mAdd v3 1)), (1, v4), (1, v5)] [] h) ∧ (¬ (v4 ≠ v2) → Q v2 h)) ∧ (¬ ((h 96 0) ≤ v5) → ((mAnd (mShr v2 v5) 1) ≠ 1 → rB d k_Walk_reached n0 z0 Q 2 [(3, 96), (1, v1), (1, v2), (1, v3), (1, v4), (1, (mAdd v5 1))] [] h) ∧ (¬ ((mAnd (mShr v2 v5) 1) ≠ 1) → mmD ((0 : Int) ≤ v5 ∧ v5 < ((10 : Nat) : Int)) inferInstance (rB d k_Walk_reached n0 z0 Q 2 [(3, 96), (1, v1), (1, v2), (1, v3), (1, (mOr v4 (mAnd (h 97 v5) v1))), (1, (mAdd v5 1))] [] h)))) : rB d k_Walk_reached n0 z0 Q 2 [(3, 96), (1, v1), (1, v2), (1, v3), (1, v4), (1, v5)] [] h :=
  rB_fold (cut := fun i => Nat.beq i 1 || Nat.beq i 2) (f := 40) hy
set_option maxRecDepth 100000 in
theorem T_c_countOrBits_0 (d : Nat) (n0 z0 : Int) (Q : Int → mmH → Prop) (h : mmH) (a0 : Int) (a1 : Int) (hy : (a0 = (-1) → Q a0 h) ∧ (¬ (a0 = (-1)) → (a1 ≠ 1 → rC d k_jInteger_bitCount [a0] h (fun x1 h1 => Q x1 h1)) ∧ (¬ (a1 ≠ 1) → Q a0 h))) : rB d k_c_countOrBits n0 z0 Q 0 [(1, a0), (1, a1)] [] h :=
  rB_fold (cut := fun i => false) (f := 40) hy
set_option maxRecDepth 100000 in
theorem T_c_go_0 (d : Nat) (n0 z0 : Int) (Q : Int → mmH → Prop) (h : mmH) (a1 : Int) (hy : rC d k_c_findsWay [1, a1] h (fun x1 h1 => (x1 ≠ 0 → rC d k_c_keepForUndo [1] h1 (fun x2 h2 => rC d k_c_goFoundWay [1, a1] h2 (fun x3 h3 => Q (h3 96 4) h3))) ∧ (¬ (x1 ≠ 0) → Q (-1) h1))) : rB d k_c_go n0 z0 Q 0 [(3, 1), (1, a1)] [] h :=
  rB_fold (cut := fun i => false) (f := 40) hy
set_option maxRecDepth 100000 in
theorem T_c_keepForUndo_0 (d : Nat) (n0 z0 : Int) (Q : Int → mmH → Prop) (h : mmH)  (hy : mmD ((0 : Int) ≤ (h 1 6) ∧ (h 1 6) < ((20 : Nat) : Int)) inferInstance (mmG (Nat.beq (tSh ((tFc 95 (h 1 6)).getD (h 95 (h 1 6)))).1 4) (rC d k_Roofs_copyFrom [((tFc 95 (h 1 6)).getD (h 95 (h 1 6))), 86] h (fun x1 h1 => Q 0 (mmS (mmS h1 1 6 (mRem (mAdd (h1 1 6) 1) 20)) 1 7 (mMin (mAdd (h1 1 7) 1) 20)))))) : rB d k_c_keepForUndo n0 z0 Q 0 [(3, 1)] [] h :=
  rB_fold (cut := fun i => false) (f := 40) hy
set_option maxRecDepth 100000 in
theorem T_Roofs_copyFrom_0 (d : Nat) (n0 z0 : Int) (Q : Int → mmH → Prop) (h : mmH) (a0 : Int) (a1 : Int) (hy : mmG (Nat.beq (tSh a1).1 4) (mmG (Nat.beq (tSh a0).1 4 && (tWn 1 a0 && (tFc a0 0).isNone)) ((fun g1 : mmH => mmG (Nat.beq (tSh a1).1 4) (mmG (Nat.beq (tSh a0).1 4 && (tWn 1 a0 && (tFc a0 1).isNone)) ((fun g2 : mmH => mmG (Nat.beq (tSh a1).1 4) (mmG (Nat.beq (tSh a0).1 4 && (tWn 1 a0 && (tFc a0 2).isNone)) ((fun g3 : mmH => mmG (Nat.beq (tSh a1).1 4) (mmG (Nat.beq (tSh a0).1 4) (mmG (Nat.beq (tSh ((tFc a1 3).getD (g3 a1 3))).1 100 && (Nat.beq (tSh ((tFc a0 3).getD (g3 a0 3))).1 100 && tWn 1 ((tFc a0 3).getD (g3 a0 3)))) (mmD (((0 : Int) ≤ 0 ∧ (0 : Int) ≤ 0 ∧ (0 : Int) ≤ 10) ∧ (0 + 10 ≤ ((tSh ((tFc a1 3).getD (g3 a1 3))).2 : Int) ∧ 0 + 10 ≤ ((tSh ((tFc a0 3).getD (g3 a0 3))).2 : Int))) inferInstance (mmG (Nat.beq (tSh a1).1 4) (mmG (Nat.beq (tSh a0).1 4) (mmG (Nat.beq (tSh ((tFc a1 4).getD ((mmCpy g3 ((tFc a1 3).getD (g3 a1 3)) 0 ((tFc a0 3).getD (g3 a0 3)) 0 10) a1 4))).1 100 && (Nat.beq (tSh ((tFc a0 4).getD ((mmCpy g3 ((tFc a1 3).getD (g3 a1 3)) 0 ((tFc a0 3).getD (g3 a0 3)) 0 10) a0 4))).1 100 && tWn 1 ((tFc a0 4).getD ((mmCpy g3 ((tFc a1 3).getD (g3 a1 3)) 0 ((tFc a0 3).getD (g3 a0 3)) 0 10) a0 4)))) (mmD (((0 : Int) ≤ 0 ∧ (0 : Int) ≤ 0 ∧ (0 : Int) ≤ 6) ∧ (0 + 6 ≤ ((tSh ((tFc a1 4).getD ((mmCpy g3 ((tFc a1 3).getD (g3 a1 3)) 0 ((tFc a0 3).getD (g3 a0 3)) 0 10) a1 4))).2 : Int) ∧ 0 + 6 ≤ ((tSh ((tFc a0 4).getD ((mmCpy g3 ((tFc a1 3).getD (g3 a1 3)) 0 ((tFc a0 3).getD (g3 a0 3)) 0 10) a0 4))).2 : Int))) inferInstance (rD d k_Roofs_copyFrom n0 z0 Q (fun i => Nat.beq i 1) 0 28 [(3, a0), (3, a1), (0, 0)] [] (mmCpy (mmCpy g3 ((tFc a1 3).getD (g3 a1 3)) 0 ((tFc a0 3).getD (g3 a0 3)) 0 10) ((tFc a1 4).getD ((mmCpy g3 ((tFc a1 3).getD (g3 a1 3)) 0 ((tFc a0 3).getD (g3 a0 3)) 0 10) a1 4)) 0 ((tFc a0 4).getD ((mmCpy g3 ((tFc a1 3).getD (g3 a1 3)) 0 ((tFc a0 3).getD (g3 a0 3)) 0 10) a0 4)) 0 6)))))))))) (mmS g2 a0 2 ((tFc a1 2).getD (g2 a1 2)))))) (mmS g1 a0 1 ((tFc a1 1).getD (g1 a1 1)))))) (mmS h a0 0 ((tFc a1 0).getD (h a1 0)))))) : rB d k_Roofs_copyFrom n0 z0 Q 0 [(3, a0), (3, a1), (0, 0)] [] h :=
  rB_fold (cut := fun i => Nat.beq i 1) (f := 40) hy
set_option maxRecDepth 100000 in
theorem T_Roofs_copyFrom_0_28 (d : Nat) (n0 z0 : Int) (Q : Int → mmH → Prop) (h : mmH) (v0 : Int) (v1 : Int) (hy : mmG (Nat.beq (tSh v1).1 4) (mmG (Nat.beq (tSh v0).1 4) (mmG (Nat.beq (tSh ((tFc v1 5).getD (h v1 5))).1 100 && (Nat.beq (tSh ((tFc v0 5).getD (h v0 5))).1 100 && tWn 1 ((tFc v0 5).getD (h v0 5)))) (mmD (((0 : Int) ≤ 0 ∧ (0 : Int) ≤ 0 ∧ (0 : Int) ≤ 6) ∧ (0 + 6 ≤ ((tSh ((tFc v1 5).getD (h v1 5))).2 : Int) ∧ 0 + 6 ≤ ((tSh ((tFc v0 5).getD (h v0 5))).2 : Int))) inferInstance (mmG (Nat.beq (tSh v1).1 4) (mmG (Nat.beq (tSh v0).1 4) (mmG (Nat.beq (tSh ((tFc v1 6).getD ((mmCpy h ((tFc v1 5).getD (h v1 5)) 0 ((tFc v0 5).getD (h v0 5)) 0 6) v1 6))).1 100 && (Nat.beq (tSh ((tFc v0 6).getD ((mmCpy h ((tFc v1 5).getD (h v1 5)) 0 ((tFc v0 5).getD (h v0 5)) 0 6) v0 6))).1 100 && tWn 1 ((tFc v0 6).getD ((mmCpy h ((tFc v1 5).getD (h v1 5)) 0 ((tFc v0 5).getD (h v0 5)) 0 6) v0 6)))) (mmD (((0 : Int) ≤ 0 ∧ (0 : Int) ≤ 0 ∧ (0 : Int) ≤ 5) ∧ (0 + 5 ≤ ((tSh ((tFc v1 6).getD ((mmCpy h ((tFc v1 5).getD (h v1 5)) 0 ((tFc v0 5).getD (h v0 5)) 0 6) v1 6))).2 : Int) ∧ 0 + 5 ≤ ((tSh ((tFc v0 6).getD ((mmCpy h ((tFc v1 5).getD (h v1 5)) 0 ((tFc v0 5).getD (h v0 5)) 0 6) v0 6))).2 : Int))) inferInstance (rB d k_Roofs_copyFrom n0 z0 Q 1 [(3, v0), (3, v1), (1, 0)] [] (mmCpy (mmCpy h ((tFc v1 5).getD (h v1 5)) 0 ((tFc v0 5).getD (h v0 5)) 0 6) ((tFc v1 6).getD ((mmCpy h ((tFc v1 5).getD (h v1 5)) 0 ((tFc v0 5).getD (h v0 5)) 0 6) v1 6)) 0 ((tFc v0 6).getD ((mmCpy h ((tFc v1 5).getD (h v1 5)) 0 ((tFc v0 5).getD (h v0 5)) 0 6) v0 6)) 0 5)))))))))) : rD d k_Roofs_copyFrom n0 z0 Q (fun i => Nat.beq i 1) 0 28 [(3, v0), (3, v1), (0, 0)] [] h := hy
set_option maxRecDepth 100000 in
theorem T_Roofs_copyFrom_1 (d : Nat) (n0 z0 : Int) (Q : Int → mmH → Prop) (h : mmH) (v0 : Int) (v1 : Int) (v2 : Int) (hy : (2 < v2 → Q 0 h) ∧ (¬ (2 < v2) → mmG (Nat.beq (tSh v1).1 4) (mmG (Nat.beq (tSh ((tFc v1 7).getD (h v1 7))).1 104) (mmD ((0 : Int) ≤ v2 ∧ v2 < ((tSh ((tFc v1 7).getD (h v1 7))).2 : Int)) inferInstance (mmG (Nat.beq (tSh v0).1 4) (mmG (Nat.beq (tSh ((tFc v0 7).getD (h v0 7))).1 104) (mmD ((0 : Int) ≤ v2 ∧ v2 < ((tSh ((tFc v0 7).getD (h v0 7))).2 : Int)) inferInstance (mmG (Nat.beq (tSh ((tFc ((tFc v1 7).getD (h v1 7)) v2).getD (h ((tFc v1 7).getD (h v1 7)) v2))).1 100 && (Nat.beq (tSh ((tFc ((tFc v0 7).getD (h v0 7)) v2).getD (h ((tFc v0 7).getD (h v0 7)) v2))).1 100 && tWn 1 ((tFc ((tFc v0 7).getD (h v0 7)) v2).getD (h ((tFc v0 7).getD (h v0 7)) v2)))) (mmD (((0 : Int) ≤ 0 ∧ (0 : Int) ≤ 0 ∧ (0 : Int) ≤ 60) ∧ (0 + 60 ≤ ((tSh ((tFc ((tFc v1 7).getD (h v1 7)) v2).getD (h ((tFc v1 7).getD (h v1 7)) v2))).2 : Int) ∧ 0 + 60 ≤ ((tSh ((tFc ((tFc v0 7).getD (h v0 7)) v2).getD (h ((tFc v0 7).getD (h v0 7)) v2))).2 : Int))) inferInstance (rB d k_Roofs_copyFrom n0 z0 Q 1 [(3, v0), (3, v1), (1, (mAdd v2 1))] [] (mmCpy h ((tFc ((tFc v1 7).getD (h v1 7)) v2).getD (h ((tFc v1 7).getD (h v1 7)) v2)) 0 ((tFc ((tFc v0 7).getD (h v0 7)) v2).getD (h ((tFc v0 7).getD (h v0 7)) v2)) 0 60))))))))))) : rB d k_Roofs_copyFrom n0 z0 Q 1 [(3, v0), (3, v1), (1, v2)] [] h :=
  rB_fold (cut := fun i => Nat.beq i 1) (f := 40) hy
set_option maxRecDepth 100000 in
theorem T_c_goFoundWay_0 (d : Nat) (n0 z0 : Int) (Q : Int → mmH → Prop) (h : mmH) (a1 : Int) (hy : rB d k_c_goFoundWay n0 z0 Q 1 [(3, 1), (1, a1), (1, 0), (1, 0), (0, 0)] [] h) : rB d k_c_goFoundWay n0 z0 Q 0 [(3, 1), (1, a1), (0, 0), (0, 0), (0, 0)] [] h :=
  rB_fold (cut := fun i => Nat.beq i 1) (f := 40) hy
set_option maxRecDepth 100000 in
theorem T_c_goFoundWay_1 (d : Nat) (n0 z0 : Int) (Q : Int → mmH → Prop) (h : mmH) (v1 : Int) (v2 : Int) (v3 : Int) (w4 : mmV) (hy : ((h 96 5) ≤ v3 → rC d k_Roofs_turnBack [86, v1] h (fun x1 h1 => Q v2 h1)) ∧ (¬ ((h 96 5) ≤ v3) → mmD ((0 : Int) ≤ v3 ∧ v3 < ((10 : Nat) : Int)) inferInstance (mmG (Nat.beq (tSh (h 1 3)).1 2) (mmG (Nat.beq (tSh ((tFc (h 1 3) 9).getD (h (h 1 3) 9))).1 104) (mmD ((0 : Int) ≤ (h 99 v3) ∧ (h 99 v3) < ((tSh ((tFc (h 1 3) 9).getD (h (h 1 3) 9))).2 : Int)) inferInstance (mmG (Nat.beq (tSh ((tFc ((tFc (h 1 3) 9).getD (h (h 1 3) 9)) (h 99 v3)).getD (h ((tFc (h 1 3) 9).getD (h (h 1 3) 9)) (h 99 v3)))).1 100) (mmD ((0 : Int) ≤ 0 ∧ 0 < ((tSh ((tFc ((tFc (h 1 3) 9).getD (h (h 1 3) 9)) (h 99 v3)).getD (h ((tFc (h 1 3) 9).getD (h (h 1 3) 9)) (h 99 v3)))).2 : Int)) inferInstance (mmD ((0 : Int) ≤ ((tFc ((tFc ((tFc (h 1 3) 9).getD (h (h 1 3) 9)) (h 99 v3)).getD (h ((tFc (h 1 3) 9).getD (h (h 1 3) 9)) (h 99 v3))) 0).getD (h ((tFc ((tFc (h 1 3) 9).getD (h (h 1 3) 9)) (h 99 v3)).getD (h ((tFc (h 1 3) 9).getD (h (h 1 3) 9)) (h 99 v3))) 0)) ∧ ((tFc ((tFc ((tFc (h 1 3) 9).getD (h (h 1 3) 9)) (h 99 v3)).getD (h ((tFc (h 1 3) 9).getD (h (h 1 3) 9)) (h 99 v3))) 0).getD (h ((tFc ((tFc (h 1 3) 9).getD (h (h 1 3) 9)) (h 99 v3)).getD (h ((tFc (h 1 3) 9).getD (h (h 1 3) 9)) (h 99 v3))) 0)) < ((5 : Nat) : Int)) inferInstance (mmD ((0 : Int) ≤ (h 99 v3) ∧ (h 99 v3) < ((10 : Nat) : Int)) inferInstance (mmD ((0 : Int) ≤ ((tFc ((tFc ((tFc (h 1 3) 9).getD (h (h 1 3) 9)) (h 99 v3)).getD (h ((tFc (h 1 3) 9).getD (h (h 1 3) 9)) (h 99 v3))) 0).getD (h ((tFc ((tFc (h 1 3) 9).getD (h (h 1 3) 9)) (h 99 v3)).getD (h ((tFc (h 1 3) 9).getD (h (h 1 3) 9)) (h 99 v3))) 0)) ∧ ((tFc ((tFc ((tFc (h 1 3) 9).getD (h (h 1 3) 9)) (h 99 v3)).getD (h ((tFc (h 1 3) 9).getD (h (h 1 3) 9)) (h 99 v3))) 0).getD (h ((tFc ((tFc (h 1 3) 9).getD (h (h 1 3) 9)) (h 99 v3)).getD (h ((tFc (h 1 3) 9).getD (h (h 1 3) 9)) (h 99 v3))) 0)) < ((5 : Nat) : Int)) inferInstance (rC d k_c_breaksAt [1, v1, (h 99 v3)] (mmS h 90 ((tFc ((tFc ((tFc (h 1 3) 9).getD (h (h 1 3) 9)) (h 99 v3)).getD (h ((tFc (h 1 3) 9).getD (h (h 1 3) 9)) (h 99 v3))) 0).getD (h ((tFc ((tFc (h 1 3) 9).getD (h (h 1 3) 9)) (h 99 v3)).getD (h ((tFc (h 1 3) 9).getD (h (h 1 3) 9)) (h 99 v3))) 0)) (mAdd (h 90 ((tFc ((tFc ((tFc (h 1 3) 9).getD (h (h 1 3) 9)) (h 99 v3)).getD (h ((tFc (h 1 3) 9).getD (h (h 1 3) 9)) (h 99 v3))) 0).getD (h ((tFc ((tFc (h 1 3) 9).getD (h (h 1 3) 9)) (h 99 v3)).getD (h ((tFc (h 1 3) 9).getD (h (h 1 3) 9)) (h 99 v3))) 0))) (h 98 (h 99 v3)))) (fun x2 h2 => (x2 = 0 → rB d k_c_goFoundWay n0 z0 Q 1 [(3, 1), (1, v1), (1, v2), (1, (mAdd v3 1)), (1, (h 99 v3))] [] h2) ∧ (¬ (x2 = 0) → mmD ((0 : Int) ≤ (h 99 v3) ∧ (h 99 v3) < ((10 : Nat) : Int)) inferInstance (mmD ((0 : Int) ≤ (h 99 v3) ∧ (h 99 v3) < ((10 : Nat) : Int)) inferInstance (rC d k_Roofs_lead [86, (h 99 v3), v1] (mmS h2 87 (h 99 v3) (mSub (h2 87 (h 99 v3)) 1)) (fun x3 h3 => rB d k_c_goFoundWay n0 z0 Q 1 [(3, 1), (1, v1), (1, (mAdd v2 1)), (1, (mAdd v3 1)), (1, (h 99 v3))] [] h3)))))))))))))))) : rB d k_c_goFoundWay n0 z0 Q 1 [(3, 1), (1, v1), (1, v2), (1, v3), w4] [] h :=
  rB_fold (cut := fun i => Nat.beq i 1) (f := 40) hy
set_option maxRecDepth 100000 in
theorem T_c_breaksAt_0 (d : Nat) (n0 z0 : Int) (Q : Int → mmH → Prop) (h : mmH) (a1 : Int) (a2 : Int) (hy : mmD ((0 : Int) ≤ a2 ∧ a2 < ((10 : Nat) : Int)) inferInstance (((h 87 a2) ≤ 0 → Q 0 h) ∧ (¬ ((h 87 a2) ≤ 0) → mmG (Nat.beq (tSh (h 1 3)).1 2) (mmG (Nat.beq (tSh ((tFc (h 1 3) 10).getD (h (h 1 3) 10))).1 104) (mmD ((0 : Int) ≤ a1 ∧ a1 < ((tSh ((tFc (h 1 3) 10).getD (h (h 1 3) 10))).2 : Int)) inferInstance (mmG (Nat.beq (tSh ((tFc ((tFc (h 1 3) 10).getD (h (h 1 3) 10)) a1).getD (h ((tFc (h 1 3) 10).getD (h (h 1 3) 10)) a1))).1 100) (mmD ((0 : Int) ≤ 0 ∧ 0 < ((tSh ((tFc ((tFc (h 1 3) 10).getD (h (h 1 3) 10)) a1).getD (h ((tFc (h 1 3) 10).getD (h (h 1 3) 10)) a1))).2 : Int)) inferInstance (mmG (Nat.beq (tSh (h 1 3)).1 2) (mmD ((0 : Int) ≤ a2 ∧ a2 < ((10 : Nat) : Int)) inferInstance ((((tFc ((tFc ((tFc (h 1 3) 10).getD (h (h 1 3) 10)) a1).getD (h ((tFc (h 1 3) 10).getD (h (h 1 3) 10)) a1)) 0).getD (h ((tFc ((tFc (h 1 3) 10).getD (h (h 1 3) 10)) a1).getD (h ((tFc (h 1 3) 10).getD (h (h 1 3) 10)) a1)) 0)) ≤ (mMul ((tFc (h 1 3) 4).getD (h (h 1 3) 4)) (h 87 a2)) → Q 0 h) ∧ (¬ (((tFc ((tFc ((tFc (h 1 3) 10).getD (h (h 1 3) 10)) a1).getD (h ((tFc (h 1 3) 10).getD (h (h 1 3) 10)) a1)) 0).getD (h ((tFc ((tFc (h 1 3) 10).getD (h (h 1 3) 10)) a1).getD (h ((tFc (h 1 3) 10).getD (h (h 1 3) 10)) a1)) 0)) ≤ (mMul ((tFc (h 1 3) 4).getD (h (h 1 3) 4)) (h 87 a2))) → Q 1 h))))))))))) : rB d k_c_breaksAt n0 z0 Q 0 [(3, 1), (1, a1), (1, a2)] [] h :=
  rB_fold (cut := fun i => false) (f := 40) hy
set_option maxRecDepth 100000 in
theorem T_Roofs_lead_0 (d : Nat) (n0 z0 : Int) (Q : Int → mmH → Prop) (h : mmH) (a1 : Int) (a2 : Int) (hy : ((h 86 2) < 60 → rB d k_Roofs_lead n0 z0 Q 1 [(3, 86), (1, a1), (1, a2)] [] h) ∧ (¬ ((h 86 2) < 60) → rC d k_Roofs_forgetOldestLed [86] h (fun x1 h1 => rB d k_Roofs_lead n0 z0 Q 1 [(3, 86), (1, a1), (1, a2)] [] h1))) : rB d k_Roofs_lead n0 z0 Q 0 [(3, 86), (1, a1), (1, a2)] [] h :=
  rB_fold (cut := fun i => Nat.beq i 1) (f := 40) hy
set_option maxRecDepth 100000 in
theorem T_Roofs_lead_1 (d : Nat) (n0 z0 : Int) (Q : Int → mmH → Prop) (h : mmH) (v1 : Int) (v2 : Int) (hy : mmD ((0 : Int) ≤ (h 86 2) ∧ (h 86 2) < ((60 : Nat) : Int)) inferInstance (mmD ((0 : Int) ≤ (h 86 2) ∧ (h 86 2) < ((60 : Nat) : Int)) inferInstance (mmD ((0 : Int) ≤ (h 86 2) ∧ (h 86 2) < ((60 : Nat) : Int)) inferInstance (Q 0 (mmS (mmS (mmS (mmS h 92 (h 86 2) (h 86 0)) 93 (h 86 2) v1) 94 (h 86 2) v2) 86 2 (mAdd (h 86 2) 1)))))) : rB d k_Roofs_lead n0 z0 Q 1 [(3, 86), (1, v1), (1, v2)] [] h :=
  rB_fold (cut := fun i => Nat.beq i 1) (f := 40) hy
set_option maxRecDepth 100000 in
theorem T_Roofs_forgetOldestLed_0 (d : Nat) (n0 z0 : Int) (Q : Int → mmH → Prop) (h : mmH)  (hy : rB d k_Roofs_forgetOldestLed n0 z0 Q 1 [(3, 86), (1, 0)] [] h) : rB d k_Roofs_forgetOldestLed n0 z0 Q 0 [(3, 86), (0, 0)] [] h :=
  rB_fold (cut := fun i => Nat.beq i 1) (f := 40) hy
set_option maxRecDepth 100000 in
theorem T_Roofs_forgetOldestLed_1 (d : Nat) (n0 z0 : Int) (Q : Int → mmH → Prop) (h : mmH) (v1 : Int) (hy : (2 < v1 → Q 0 (mmS h 86 2 59)) ∧ (¬ (2 < v1) → mmD ((0 : Int) ≤ v1 ∧ v1 < ((3 : Nat) : Int)) inferInstance (mmD ((0 : Int) ≤ v1 ∧ v1 < ((3 : Nat) : Int)) inferInstance (mmG (Nat.beq (tSh ((tFc 91 v1).getD (h 91 v1))).1 100 && (Nat.beq (tSh ((tFc 91 v1).getD (h 91 v1))).1 100 && tWn 1 ((tFc 91 v1).getD (h 91 v1)))) (mmD (((0 : Int) ≤ 1 ∧ (0 : Int) ≤ 0 ∧ (0 : Int) ≤ 59) ∧ (1 + 59 ≤ ((tSh ((tFc 91 v1).getD (h 91 v1))).2 : Int) ∧ 0 + 59 ≤ ((tSh ((tFc 91 v1).getD (h 91 v1))).2 : Int))) inferInstance (rB d k_Roofs_forgetOldestLed n0 z0 Q 1 [(3, 86), (1, (mAdd v1 1))] [] (mmCpy h ((tFc 91 v1).getD (h 91 v1)) 1 ((tFc 91 v1).getD (h 91 v1)) 0 59))))))) : rB d k_Roofs_forgetOldestLed n0 z0 Q 1 [(3, 86), (1, v1)] [] h :=
  rB_fold (cut := fun i => Nat.beq i 1) (f := 40) hy
set_option maxRecDepth 100000 in
theorem T_Roofs_turnBack_0 (d : Nat) (n0 z0 : Int) (Q : Int → mmH → Prop) (h : mmH) (a1 : Int) (hy : mmD ((0 : Int) ≤ a1 ∧ a1 < ((6 : Nat) : Int)) inferInstance (mmD ((0 : Int) ≤ a1 ∧ a1 < ((6 : Nat) : Int)) inferInstance (mmD ((0 : Int) ≤ a1 ∧ a1 < ((6 : Nat) : Int)) inferInstance (mmD ((0 : Int) ≤ a1 ∧ a1 < ((6 : Nat) : Int)) inferInstance (Q 0 (mmS (mmS h 89 a1 (h 88 a1)) 88 a1 (h 89 a1))))))) : rB d k_Roofs_turnBack n0 z0 Q 0 [(3, 86), (1, a1), (0, 0)] [] h :=
  rB_fold (cut := fun i => false) (f := 40) hy
set_option maxRecDepth 100000 in
theorem T_c_night_0 (d : Nat) (n0 z0 : Int) (Q : Int → mmH → Prop) (h : mmH)  (hy : ((h 86 0) < 999 → rC d k_c_keepForUndo [1] h (fun x1 h1 => rB d k_c_night n0 z0 Q 2 [(3, 1), (1, 0), (1, 0)] [] h1)) ∧ (¬ ((h 86 0) < 999) → Q (-1) h)) : rB d k_c_night n0 z0 Q 0 [(3, 1), (0, 0), (0, 0)] [] h :=
  rB_fold (cut := fun i => Nat.beq i 2) (f := 40) hy
set_option maxRecDepth 100000 in
theorem T_c_night_2 (d : Nat) (n0 z0 : Int) (Q : Int → mmH → Prop) (h : mmH) (v1 : Int) (v2 : Int) (hy : mmG (Nat.beq (tSh (h 1 3)).1 2) ((((tFc (h 1 3) 3).getD (h (h 1 3) 3)) ≤ v2 → rC d k_c_draw [1, 100] h (fun x1 h1 => mmG (Nat.beq (tSh (h1 1 3)).1 2) ((((tFc (h1 1 3) 5).getD (h1 (h1 1 3) 5)) ≤ x1 → Q v1 (mmS h1 86 0 (mAdd (h1 86 0) 1))) ∧ (¬ (((tFc (h1 1 3) 5).getD (h1 (h1 1 3) 5)) ≤ x1) → rC d k_c_letRain [1] h1 (fun x2 h2 => Q v1 (mmS h2 86 0 (mAdd (h2 86 0) 1))))))) ∧ (¬ (((tFc (h 1 3) 3).getD (h (h 1 3) 3)) ≤ v2) → rC d k_c_findsWay [1, v2] h (fun x3 h3 => (x3 = 0 → rB d k_c_night n0 z0 Q 2 [(3, 1), (1, v1), (1, (mAdd v2 1))] [] h3) ∧ (¬ (x3 = 0) → rC d k_c_goFoundWay [1, v2] h3 (fun x4 h4 => rB d k_c_night n0 z0 Q 2 [(3, 1), (1, (mAdd v1 x4)), (1, (mAdd v2 1))] [] h4)))))) : rB d k_c_night n0 z0 Q 2 [(3, 1), (1, v1), (1, v2)] [] h :=
  rB_fold (cut := fun i => Nat.beq i 2) (f := 40) hy
set_option maxRecDepth 100000 in
theorem T_c_draw_0 (d : Nat) (n0 z0 : Int) (Q : Int → mmH → Prop) (h : mmH) (a1 : Int) (hy : (a1 ≤ 0 → Q 0 (mmS h 1 8 (mAnd (mAdd (mMul 1103515245 (h 1 8)) 12345) 2147483647))) ∧ (¬ (a1 ≤ 0) → mmD (a1 ≠ 0) inferInstance (Q (mRem (mShr (mAnd (mAdd (mMul 1103515245 (h 1 8)) 12345) 2147483647) 6) a1) (mmS h 1 8 (mAnd (mAdd (mMul 1103515245 (h 1 8)) 12345) 2147483647))))) : rB d k_c_draw n0 z0 Q 0 [(3, 1), (1, a1)] [] h :=
  rB_fold (cut := fun i => false) (f := 40) hy
set_option maxRecDepth 100000 in
theorem T_c_letRain_0 (d : Nat) (n0 z0 : Int) (Q : Int → mmH → Prop) (h : mmH)  (hy : rC d k_c_leaks [1] h (fun x1 h1 => rB d k_c_letRain n0 z0 Q 1 [(3, 1), (1, x1), (1, 0)] [] h1)) : rB d k_c_letRain n0 z0 Q 0 [(3, 1), (0, 0), (0, 0)] [] h :=
  rB_fold (cut := fun i => Nat.beq i 1) (f := 40) hy
set_option maxRecDepth 100000 in
theorem T_c_letRain_1 (d : Nat) (n0 z0 : Int) (Q : Int → mmH → Prop) (h : mmH) (v1 : Int) (v2 : Int) (hy : mmG (Nat.beq (tSh (h 1 3)).1 2) ((((tFc (h 1 3) 1).getD (h (h 1 3) 1)) ≤ v2 → Q 0 h) ∧ (¬ (((tFc (h 1 3) 1).getD (h (h 1 3) 1)) ≤ v2) → ((mAnd (mShr v1 v2) 1) ≠ 1 → rB d k_c_letRain n0 z0 Q 1 [(3, 1), (1, v1), (1, (mAdd v2 1))] [] h) ∧ (¬ ((mAnd (mShr v1 v2) 1) ≠ 1) → mmG (Nat.beq (tSh (h 1 3)).1 2) (mmG (Nat.beq (tSh ((tFc (h 1 3) 9).getD (h (h 1 3) 9))).1 104) (mmD ((0 : Int) ≤ v2 ∧ v2 < ((tSh ((tFc (h 1 3) 9).getD (h (h 1 3) 9))).2 : Int)) inferInstance (mmG (Nat.beq (tSh ((tFc ((tFc (h 1 3) 9).getD (h (h 1 3) 9)) v2).getD (h ((tFc (h 1 3) 9).getD (h (h 1 3) 9)) v2))).1 100) (mmD ((0 : Int) ≤ 0 ∧ 0 < ((tSh ((tFc ((tFc (h 1 3) 9).getD (h (h 1 3) 9)) v2).getD (h ((tFc (h 1 3) 9).getD (h (h 1 3) 9)) v2))).2 : Int)) inferInstance (mmD ((0 : Int) ≤ ((tFc ((tFc ((tFc (h 1 3) 9).getD (h (h 1 3) 9)) v2).getD (h ((tFc (h 1 3) 9).getD (h (h 1 3) 9)) v2)) 0).getD (h ((tFc ((tFc (h 1 3) 9).getD (h (h 1 3) 9)) v2).getD (h ((tFc (h 1 3) 9).getD (h (h 1 3) 9)) v2)) 0)) ∧ ((tFc ((tFc ((tFc (h 1 3) 9).getD (h (h 1 3) 9)) v2).getD (h ((tFc (h 1 3) 9).getD (h (h 1 3) 9)) v2)) 0).getD (h ((tFc ((tFc (h 1 3) 9).getD (h (h 1 3) 9)) v2).getD (h ((tFc (h 1 3) 9).getD (h (h 1 3) 9)) v2)) 0)) < ((5 : Nat) : Int)) inferInstance (mmD ((0 : Int) ≤ ((tFc ((tFc ((tFc (h 1 3) 9).getD (h (h 1 3) 9)) v2).getD (h ((tFc (h 1 3) 9).getD (h (h 1 3) 9)) v2)) 0).getD (h ((tFc ((tFc (h 1 3) 9).getD (h (h 1 3) 9)) v2).getD (h ((tFc (h 1 3) 9).getD (h (h 1 3) 9)) v2)) 0)) ∧ ((tFc ((tFc ((tFc (h 1 3) 9).getD (h (h 1 3) 9)) v2).getD (h ((tFc (h 1 3) 9).getD (h (h 1 3) 9)) v2)) 0).getD (h ((tFc ((tFc (h 1 3) 9).getD (h (h 1 3) 9)) v2).getD (h ((tFc (h 1 3) 9).getD (h (h 1 3) 9)) v2)) 0)) < ((5 : Nat) : Int)) inferInstance (rB d k_c_letRain n0 z0 Q 1 [(3, 1), (1, v1), (1, (mAdd v2 1))] [] (mmS h 90 ((tFc ((tFc ((tFc (h 1 3) 9).getD (h (h 1 3) 9)) v2).getD (h ((tFc (h 1 3) 9).getD (h (h 1 3) 9)) v2)) 0).getD (h ((tFc ((tFc (h 1 3) 9).getD (h (h 1 3) 9)) v2).getD (h ((tFc (h 1 3) 9).getD (h (h 1 3) 9)) v2)) 0)) (mSub (h 90 ((tFc ((tFc ((tFc (h 1 3) 9).getD (h (h 1 3) 9)) v2).getD (h ((tFc (h 1 3) 9).getD (h (h 1 3) 9)) v2)) 0).getD (h ((tFc ((tFc (h 1 3) 9).getD (h (h 1 3) 9)) v2).getD (h ((tFc (h 1 3) 9).getD (h (h 1 3) 9)) v2)) 0))) 1))))))))))))) : rB d k_c_letRain n0 z0 Q 1 [(3, 1), (1, v1), (1, v2)] [] h :=
  rB_fold (cut := fun i => Nat.beq i 1) (f := 40) hy
set_option maxRecDepth 100000 in
theorem T_c_leaks_0 (d : Nat) (n0 z0 : Int) (Q : Int → mmH → Prop) (h : mmH)  (hy : rB d k_c_leaks n0 z0 Q 1 [(3, 1), (1, 0), (1, 0)] [] h) : rB d k_c_leaks n0 z0 Q 0 [(3, 1), (0, 0), (0, 0)] [] h :=
  rB_fold (cut := fun i => Nat.beq i 1) (f := 40) hy
set_option maxRecDepth 100000 in
theorem T_c_leaks_1 (d : Nat) (n0 z0 : Int) (Q : Int → mmH → Prop) (h : mmH) (v1 : Int) (v2 : Int) (hy : mmG (Nat.beq (tSh (h 1 3)).1 2) ((((tFc (h 1 3) 1).getD (h (h 1 3) 1)) ≤ v2 → Q v1 h) ∧ (¬ (((tFc (h 1 3) 1).getD (h (h 1 3) 1)) ≤ v2) → mmD ((0 : Int) ≤ v2 ∧ v2 < ((10 : Nat) : Int)) inferInstance ((3 ≤ (h 87 v2) → rB d k_c_leaks n0 z0 Q 1 [(3, 1), (1, v1), (1, (mAdd v2 1))] [] h) ∧ (¬ (3 ≤ (h 87 v2)) → rB d k_c_leaks n0 z0 Q 1 [(3, 1), (1, (mOr v1 (mShl 1 v2))), (1, (mAdd v2 1))] [] h))))) : rB d k_c_leaks n0 z0 Q 1 [(3, 1), (1, v1), (1, v2)] [] h :=
  rB_fold (cut := fun i => Nat.beq i 1) (f := 40) hy
set_option maxRecDepth 100000 in
theorem T_c_patch_0 (d : Nat) (n0 z0 : Int) (Q : Int → mmH → Prop) (h : mmH) (a1 : Int) (a2 : Int) (hy : mmG (Nat.beq (tSh (h 1 3)).1 2) (rC d k_Town_isLot [(h 1 3), a1] h (fun x1 h1 => (x1 = 0 → Q 0 h1) ∧ (¬ (x1 = 0) → mmG (Nat.beq (tSh (h1 1 3)).1 2) (rC d k_Town_isLot [(h1 1 3), a2] h1 (fun x2 h2 => (x2 = 0 → Q 0 h2) ∧ (¬ (x2 = 0) → (a1 ≠ a2 → mmG (Nat.beq (tSh (h2 1 3)).1 2) (mmG (Nat.beq (tSh ((tFc (h2 1 3) 9).getD (h2 (h2 1 3) 9))).1 104) (mmD ((0 : Int) ≤ a1 ∧ a1 < ((tSh ((tFc (h2 1 3) 9).getD (h2 (h2 1 3) 9))).2 : Int)) inferInstance (mmG (Nat.beq (tSh ((tFc ((tFc (h2 1 3) 9).getD (h2 (h2 1 3) 9)) a1).getD (h2 ((tFc (h2 1 3) 9).getD (h2 (h2 1 3) 9)) a1))).1 100) (mmD ((0 : Int) ≤ 4 ∧ 4 < ((tSh ((tFc ((tFc (h2 1 3) 9).getD (h2 (h2 1 3) 9)) a1).getD (h2 ((tFc (h2 1 3) 9).getD (h2 (h2 1 3) 9)) a1))).2 : Int)) inferInstance ((((tFc ((tFc ((tFc (h2 1 3) 9).getD (h2 (h2 1 3) 9)) a1).getD (h2 ((tFc (h2 1 3) 9).getD (h2 (h2 1 3) 9)) a1)) 4).getD (h2 ((tFc ((tFc (h2 1 3) 9).getD (h2 (h2 1 3) 9)) a1).getD (h2 ((tFc (h2 1 3) 9).getD (h2 (h2 1 3) 9)) a1)) 4)) = 1 → Q 0 h2) ∧ (¬ (((tFc ((tFc ((tFc (h2 1 3) 9).getD (h2 (h2 1 3) 9)) a1).getD (h2 ((tFc (h2 1 3) 9).getD (h2 (h2 1 3) 9)) a1)) 4).getD (h2 ((tFc ((tFc (h2 1 3) 9).getD (h2 (h2 1 3) 9)) a1).getD (h2 ((tFc (h2 1 3) 9).getD (h2 (h2 1 3) 9)) a1)) 4)) = 1) → mmD ((0 : Int) ≤ a1 ∧ a1 < ((10 : Nat) : Int)) inferInstance (((h2 87 a1) < 1 → Q 0 h2) ∧ (¬ ((h2 87 a1) < 1) → mmD ((0 : Int) ≤ a2 ∧ a2 < ((10 : Nat) : Int)) inferInstance (((h2 87 a2) < 30 → rC d k_c_keepForUndo [1] h2 (fun x3 h3 => mmD ((0 : Int) ≤ a1 ∧ a1 < ((10 : Nat) : Int)) inferInstance (mmD ((0 : Int) ≤ a1 ∧ a1 < ((10 : Nat) : Int)) inferInstance (mmD ((0 : Int) ≤ a2 ∧ a2 < ((10 : Nat) : Int)) inferInstance (mmD ((0 : Int) ≤ a2 ∧ a2 < ((10 : Nat) : Int)) inferInstance (Q 1 (mmS (mmS h3 87 a1 (mSub (h3 87 a1) 1)) 87 a2 (mAdd ((mmS h3 87 a1 (mSub (h3 87 a1) 1)) 87 a2) 1)))))))) ∧ (¬ ((h2 87 a2) < 30) → Q 0 h2))))))))))) ∧ (¬ (a1 ≠ a2) → Q 0 h2)))))))) : rB d k_c_patch n0 z0 Q 0 [(3, 1), (1, a1), (1, a2)] [] h :=
  rB_fold (cut := fun i => false) (f := 40) hy
set_option maxRecDepth 100000 in
theorem T_c_snow_0 (d : Nat) (n0 z0 : Int) (Q : Int → mmH → Prop) (h : mmH) (a1 : Int) (hy : (a1 < 0 → Q (-1) h) ∧ (¬ (a1 < 0) → (a1 ≤ 9 → rC d k_c_keepForUndo [1] h (fun x1 h1 => Q (h1 86 1) (mmS h1 86 1 a1))) ∧ (¬ (a1 ≤ 9) → Q (-1) h))) : rB d k_c_snow n0 z0 Q 0 [(3, 1), (1, a1), (0, 0)] [] h :=
  rB_fold (cut := fun i => false) (f := 40) hy
set_option maxRecDepth 100000 in
theorem T_c_fire_0 (d : Nat) (n0 z0 : Int) (Q : Int → mmH → Prop) (h : mmH) (a1 : Int) (a2 : Int) (hy : rC d k_c_burns [1, a1, a2] h (fun x1 h1 => (x1 ≠ (-1) → rC d k_c_keepForUndo [1] h1 (fun x2 h2 => rC d k_Roofs_tilesOf [86, x1] h2 (fun x3 h3 => rC d k_Roofs_takeAllOf [86, x1] h3 (fun x4 h4 => Q x3 h4)))) ∧ (¬ (x1 ≠ (-1)) → Q (-1) h1))) : rB d k_c_fire n0 z0 Q 0 [(3, 1), (1, a1), (1, a2), (0, 0), (0, 0)] [] h :=
  rB_fold (cut := fun i => false) (f := 40) hy
set_option maxRecDepth 100000 in
theorem T_c_burns_0 (d : Nat) (n0 z0 : Int) (Q : Int → mmH → Prop) (h : mmH) (a1 : Int) (a2 : Int) (hy : mmG (Nat.beq (tSh (h 1 3)).1 2) (rC d k_Town_isLot [(h 1 3), a1] h (fun x1 h1 => (x1 = 0 → Q (-1) h1) ∧ (¬ (x1 = 0) → (a2 < 0 → Q (-1) h1) ∧ (¬ (a2 < 0) → (20 < a2 → Q (-1) h1) ∧ (¬ (20 < a2) → mmD ((0 : Int) ≤ a1 ∧ a1 < ((10 : Nat) : Int)) inferInstance (((h1 87 a1) ≠ 0 → mmG (Nat.beq (tSh (h1 1 3)).1 2) (rC d k_Roofs_holes [86, ((tFc (h1 1 3) 1).getD (h1 (h1 1 3) 1))] h1 (fun x2 h2 => rB d k_c_burns n0 z0 Q 3 [(3, 1), (1, a1), (1, a2), (1, x2), (1, (mShl 1 a1)), (1, 0)] [] h2))) ∧ (¬ ((h1 87 a1) ≠ 0) → Q (-1) h1)))))))) : rB d k_c_burns n0 z0 Q 0 [(3, 1), (1, a1), (1, a2), (0, 0), (0, 0), (0, 0)] [] h :=
  rB_fold (cut := fun i => Nat.beq i 3) (f := 40) hy
set_option maxRecDepth 100000 in
theorem T_c_burns_3 (d : Nat) (n0 z0 : Int) (Q : Int → mmH → Prop) (h : mmH) (v1 : Int) (v2 : Int) (v3 : Int) (v4 : Int) (v5 : Int) (hy : (v2 ≤ v5 → Q v4 h) ∧ (¬ (v2 ≤ v5) → mmG (Nat.beq (tSh (h 1 3)).1 2) (rC d k_Town_besides [(h 1 3), v4, 1] h (fun x1 h1 => rB d k_c_burns n0 z0 Q 3 [(3, 1), (1, v1), (1, v2), (1, v3), (1, (mOr v4 (mAnd x1 (mXor v3 (-1))))), (1, (mAdd v5 1))] [] h1)))) : rB d k_c_burns n0 z0 Q 3 [(3, 1), (1, v1), (1, v2), (1, v3), (1, v4), (1, v5)] [] h :=
  rB_fold (cut := fun i => Nat.beq i 3) (f := 40) hy
set_option maxRecDepth 100000 in
theorem T5_Town_besides_0 (d : Nat) (n0 z0 : Int) (Q : Int → mmH → Prop) (h : mmH) (a1 : Int) (a2 : Int) (hy : rB d k_Town_besides n0 z0 Q 1 [(3, 5), (1, a1), (1, a2), (1, 0), (1, 0), (0, 0), (0, 0)] [] h) : rB d k_Town_besides n0 z0 Q 0 [(3, 5), (1, a1), (1, a2), (0, 0), (0, 0), (0, 0), (0, 0)] [] h :=
  rB_fold (cut := fun i => Nat.beq i 1 || Nat.beq i 2) (f := 40) hy
set_option maxRecDepth 100000 in
theorem T5_Town_besides_1 (d : Nat) (n0 z0 : Int) (Q : Int → mmH → Prop) (h : mmH) (v1 : Int) (v2 : Int) (v3 : Int) (v4 : Int) (w5 : mmV) (w6 : mmV) (hy : ((h 5 1) ≤ v4 → Q v3 h) ∧ (¬ ((h 5 1) ≤ v4) → rB d k_Town_besides n0 z0 Q 2 [(3, 5), (1, v1), (1, v2), (1, v3), (1, v4), (1, 0), w6] [] h)) : rB d k_Town_besides n0 z0 Q 1 [(3, 5), (1, v1), (1, v2), (1, v3), (1, v4), w5, w6] [] h :=
  rB_fold (cut := fun i => Nat.beq i 1 || Nat.beq i 2) (f := 40) hy
set_option maxRecDepth 100000 in
theorem T5_Town_besides_2 (d : Nat) (n0 z0 : Int) (Q : Int → mmH → Prop) (h : mmH) (v1 : Int) (v2 : Int) (v3 : Int) (v4 : Int) (v5 : Int) (w6 : mmV) (hy : ((h 5 1) ≤ v5 → rB d k_Town_besides n0 z0 Q 1 [(3, 5), (1, v1), (1, v2), (1, v3), (1, (mAdd v4 1)), (1, v5), w6] [] h) ∧ (¬ ((h 5 1) ≤ v5) → mmD ((0 : Int) ≤ v4 ∧ v4 < ((10 : Nat) : Int)) inferInstance (mmG (Nat.beq (tSh ((tFc 27 v4).getD (h 27 v4))).1 100) (mmD ((0 : Int) ≤ v5 ∧ v5 < ((tSh ((tFc 27 v4).getD (h 27 v4))).2 : Int)) inferInstance (((mAnd (mShr v1 v4) 1) ≠ 1 → rB d k_Town_besides n0 z0 Q 2 [(3, 5), (1, v1), (1, v2), (1, v3), (1, v4), (1, (mAdd v5 1)), (1, ((tFc ((tFc 27 v4).getD (h 27 v4)) v5).getD (h ((tFc 27 v4).getD (h 27 v4)) v5)))] [] h) ∧ (¬ ((mAnd (mShr v1 v4) 1) ≠ 1) → (((tFc ((tFc 27 v4).getD (h 27 v4)) v5).getD (h ((tFc 27 v4).getD (h 27 v4)) v5)) = (-1) → rB d k_Town_besides n0 z0 Q 2 [(3, 5), (1, v1), (1, v2), (1, v3), (1, v4), (1, (mAdd v5 1)), (1, ((tFc ((tFc 27 v4).getD (h 27 v4)) v5).getD (h ((tFc 27 v4).getD (h 27 v4)) v5)))] [] h) ∧ (¬ (((tFc ((tFc 27 v4).getD (h 27 v4)) v5).getD (h ((tFc 27 v4).getD (h 27 v4)) v5)) = (-1)) → (v2 < ((tFc ((tFc 27 v4).getD (h 27 v4)) v5).getD (h ((tFc 27 v4).getD (h 27 v4)) v5)) → rB d k_Town_besides n0 z0 Q 2 [(3, 5), (1, v1), (1, v2), (1, v3), (1, v4), (1, (mAdd v5 1)), (1, ((tFc ((tFc 27 v4).getD (h 27 v4)) v5).getD (h ((tFc 27 v4).getD (h 27 v4)) v5)))] [] h) ∧ (¬ (v2 < ((tFc ((tFc 27 v4).getD (h 27 v4)) v5).getD (h ((tFc 27 v4).getD (h 27 v4)) v5))) → rB d k_Town_besides n0 z0 Q 2 [(3, 5), (1, v1), (1, v2), (1, (mOr v3 (mShl 1 v5))), (1, v4), (1, (mAdd v5 1)), (1, ((tFc ((tFc 27 v4).getD (h 27 v4)) v5).getD (h ((tFc 27 v4).getD (h 27 v4)) v5)))] [] h)))))))) : rB d k_Town_besides n0 z0 Q 2 [(3, 5), (1, v1), (1, v2), (1, v3), (1, v4), (1, v5), w6] [] h :=
  rB_fold (cut := fun i => Nat.beq i 1 || Nat.beq i 2) (f := 40) hy
set_option maxRecDepth 100000 in
theorem T46_Town_besides_0 (d : Nat) (n0 z0 : Int) (Q : Int → mmH → Prop) (h : mmH) (a1 : Int) (a2 : Int) (hy : rB d k_Town_besides n0 z0 Q 1 [(3, 46), (1, a1), (1, a2), (1, 0), (1, 0), (0, 0), (0, 0)] [] h) : rB d k_Town_besides n0 z0 Q 0 [(3, 46), (1, a1), (1, a2), (0, 0), (0, 0), (0, 0), (0, 0)] [] h :=
  rB_fold (cut := fun i => Nat.beq i 1 || Nat.beq i 2) (f := 40) hy
set_option maxRecDepth 100000 in
theorem T46_Town_besides_1 (d : Nat) (n0 z0 : Int) (Q : Int → mmH → Prop) (h : mmH) (v1 : Int) (v2 : Int) (v3 : Int) (v4 : Int) (w5 : mmV) (w6 : mmV) (hy : ((h 46 1) ≤ v4 → Q v3 h) ∧ (¬ ((h 46 1) ≤ v4) → rB d k_Town_besides n0 z0 Q 2 [(3, 46), (1, v1), (1, v2), (1, v3), (1, v4), (1, 0), w6] [] h)) : rB d k_Town_besides n0 z0 Q 1 [(3, 46), (1, v1), (1, v2), (1, v3), (1, v4), w5, w6] [] h :=
  rB_fold (cut := fun i => Nat.beq i 1 || Nat.beq i 2) (f := 40) hy
set_option maxRecDepth 100000 in
theorem T46_Town_besides_2 (d : Nat) (n0 z0 : Int) (Q : Int → mmH → Prop) (h : mmH) (v1 : Int) (v2 : Int) (v3 : Int) (v4 : Int) (v5 : Int) (w6 : mmV) (hy : ((h 46 1) ≤ v5 → rB d k_Town_besides n0 z0 Q 1 [(3, 46), (1, v1), (1, v2), (1, v3), (1, (mAdd v4 1)), (1, v5), w6] [] h) ∧ (¬ ((h 46 1) ≤ v5) → mmD ((0 : Int) ≤ v4 ∧ v4 < ((10 : Nat) : Int)) inferInstance (mmG (Nat.beq (tSh ((tFc 68 v4).getD (h 68 v4))).1 100) (mmD ((0 : Int) ≤ v5 ∧ v5 < ((tSh ((tFc 68 v4).getD (h 68 v4))).2 : Int)) inferInstance (((mAnd (mShr v1 v4) 1) ≠ 1 → rB d k_Town_besides n0 z0 Q 2 [(3, 46), (1, v1), (1, v2), (1, v3), (1, v4), (1, (mAdd v5 1)), (1, ((tFc ((tFc 68 v4).getD (h 68 v4)) v5).getD (h ((tFc 68 v4).getD (h 68 v4)) v5)))] [] h) ∧ (¬ ((mAnd (mShr v1 v4) 1) ≠ 1) → (((tFc ((tFc 68 v4).getD (h 68 v4)) v5).getD (h ((tFc 68 v4).getD (h 68 v4)) v5)) = (-1) → rB d k_Town_besides n0 z0 Q 2 [(3, 46), (1, v1), (1, v2), (1, v3), (1, v4), (1, (mAdd v5 1)), (1, ((tFc ((tFc 68 v4).getD (h 68 v4)) v5).getD (h ((tFc 68 v4).getD (h 68 v4)) v5)))] [] h) ∧ (¬ (((tFc ((tFc 68 v4).getD (h 68 v4)) v5).getD (h ((tFc 68 v4).getD (h 68 v4)) v5)) = (-1)) → (v2 < ((tFc ((tFc 68 v4).getD (h 68 v4)) v5).getD (h ((tFc 68 v4).getD (h 68 v4)) v5)) → rB d k_Town_besides n0 z0 Q 2 [(3, 46), (1, v1), (1, v2), (1, v3), (1, v4), (1, (mAdd v5 1)), (1, ((tFc ((tFc 68 v4).getD (h 68 v4)) v5).getD (h ((tFc 68 v4).getD (h 68 v4)) v5)))] [] h) ∧ (¬ (v2 < ((tFc ((tFc 68 v4).getD (h 68 v4)) v5).getD (h ((tFc 68 v4).getD (h 68 v4)) v5))) → rB d k_Town_besides n0 z0 Q 2 [(3, 46), (1, v1), (1, v2), (1, (mOr v3 (mShl 1 v5))), (1, v4), (1, (mAdd v5 1)), (1, ((tFc ((tFc 68 v4).getD (h 68 v4)) v5).getD (h ((tFc 68 v4).getD (h 68 v4)) v5)))] [] h)))))))) : rB d k_Town_besides n0 z0 Q 2 [(3, 46), (1, v1), (1, v2), (1, v3), (1, v4), (1, v5), w6] [] h :=
  rB_fold (cut := fun i => Nat.beq i 1 || Nat.beq i 2) (f := 40) hy
set_option maxRecDepth 100000 in
theorem T_Roofs_takeAllOf_0 (d : Nat) (n0 z0 : Int) (Q : Int → mmH → Prop) (h : mmH) (a1 : Int) (hy : rB d k_Roofs_takeAllOf n0 z0 Q 1 [(3, 86), (1, a1), (1, 0)] [] h) : rB d k_Roofs_takeAllOf n0 z0 Q 0 [(3, 86), (1, a1), (0, 0)] [] h :=
  rB_fold (cut := fun i => Nat.beq i 1) (f := 40) hy
set_option maxRecDepth 100000 in
theorem T_Roofs_takeAllOf_1 (d : Nat) (n0 z0 : Int) (Q : Int → mmH → Prop) (h : mmH) (v1 : Int) (v2 : Int) (hy : (10 ≤ v2 → Q 0 h) ∧ (¬ (10 ≤ v2) → ((mAnd (mShr v1 v2) 1) ≠ 1 → rB d k_Roofs_takeAllOf n0 z0 Q 1 [(3, 86), (1, v1), (1, (mAdd v2 1))] [] h) ∧ (¬ ((mAnd (mShr v1 v2) 1) ≠ 1) → mmD ((0 : Int) ≤ v2 ∧ v2 < ((10 : Nat) : Int)) inferInstance (rB d k_Roofs_takeAllOf n0 z0 Q 1 [(3, 86), (1, v1), (1, (mAdd v2 1))] [] (mmS h 87 v2 0))))) : rB d k_Roofs_takeAllOf n0 z0 Q 1 [(3, 86), (1, v1), (1, v2)] [] h :=
  rB_fold (cut := fun i => Nat.beq i 1) (f := 40) hy
set_option maxRecDepth 100000 in
theorem T_c_undo_0 (d : Nat) (n0 z0 : Int) (Q : Int → mmH → Prop) (h : mmH)  (hy : (1 ≤ (h 1 7) → mmD ((0 : Int) ≤ (mRem (mSub (mAdd (h 1 6) 20) 1) 20) ∧ (mRem (mSub (mAdd (h 1 6) 20) 1) 20) < ((20 : Nat) : Int)) inferInstance (rC d k_Roofs_copyFrom [86, ((tFc 95 (mRem (mSub (mAdd (h 1 6) 20) 1) 20)).getD (h 95 (mRem (mSub (mAdd (h 1 6) 20) 1) 20)))] (mmS (mmS h 1 7 (mSub (h 1 7) 1)) 1 6 (mRem (mSub (mAdd (h 1 6) 20) 1) 20)) (fun x1 h1 => Q 1 h1))) ∧ (¬ (1 ≤ (h 1 7)) → Q 0 h)) : rB d k_c_undo n0 z0 Q 0 [(3, 1)] [] h :=
  rB_fold (cut := fun i => false) (f := 40) hy
set_option maxRecDepth 100000 in
theorem T_c_seed_0 (d : Nat) (n0 z0 : Int) (Q : Int → mmH → Prop) (h : mmH) (a1 : Int) (hy : (0 ≤ a1 → Q 1 (mmS h 1 8 a1)) ∧ (¬ (0 ≤ a1) → Q 0 h)) : rB d k_c_seed n0 z0 Q 0 [(3, 1), (1, a1)] [] h :=
  rB_fold (cut := fun i => false) (f := 40) hy
set_option maxRecDepth 100000 in
theorem T_c_led_0 (d : Nat) (n0 z0 : Int) (Q : Int → mmH → Prop) (h : mmH) (a1 : Int) (a2 : Int) (hy : (a1 < 0 → Q (-1) h) ∧ (¬ (a1 < 0) → ((h 86 2) ≤ a1 → Q (-1) h) ∧ (¬ ((h 86 2) ≤ a1) → (a2 < 0 → Q (-1) h) ∧ (¬ (a2 < 0) → (a2 ≤ 2 → mmD ((0 : Int) ≤ a2 ∧ a2 < ((3 : Nat) : Int)) inferInstance (mmG (Nat.beq (tSh ((tFc 91 a2).getD (h 91 a2))).1 100) (mmD ((0 : Int) ≤ a1 ∧ a1 < ((tSh ((tFc 91 a2).getD (h 91 a2))).2 : Int)) inferInstance (Q ((tFc ((tFc 91 a2).getD (h 91 a2)) a1).getD (h ((tFc 91 a2).getD (h 91 a2)) a1)) h)))) ∧ (¬ (a2 ≤ 2) → Q (-1) h))))) : rB d k_c_led n0 z0 Q 0 [(3, 1), (1, a1), (1, a2)] [] h :=
  rB_fold (cut := fun i => false) (f := 40) hy
set_option maxRecDepth 100000 in
theorem T_c_stopped_0 (d : Nat) (n0 z0 : Int) (Q : Int → mmH → Prop) (h : mmH) (a1 : Int) (a2 : Int) (hy : (a2 < 0 → Q (-1) h) ∧ (¬ (a2 < 0) → (1 < a2 → Q (-1) h) ∧ (¬ (1 < a2) → mmG (Nat.beq (tSh (h 1 3)).1 2) (rC d k_Town_isPerson [(h 1 3), a1] h (fun x1 h1 => (x1 ≠ 0 → rC d k_Walk_look [96, (h1 1 3), 86, a1] h1 (fun x2 h2 => mmG (Nat.beq (tSh (h2 1 3)).1 2) (rC d k_Town_storks [(h2 1 3)] h2 (fun x3 h3 => mmD ((0 : Int) ≤ a1 ∧ a1 < ((6 : Nat) : Int)) inferInstance (mmD ((0 : Int) ≤ a1 ∧ a1 < ((6 : Nat) : Int)) inferInstance (rB d k_c_stopped n0 z0 Q 3 [(3, 1), (1, a1), (1, a2), (1, (mOr (mOr x3 (mShl 1 (h3 88 a1))) (mShl 1 (h3 89 a1)))), (1, (-1)), (1, 0), (1, 0), (0, 0)] [] h3)))))) ∧ (¬ (x1 ≠ 0) → Q (-1) h1)))))) : rB d k_c_stopped n0 z0 Q 0 [(3, 1), (1, a1), (1, a2), (0, 0), (0, 0), (0, 0), (0, 0), (0, 0)] [] h :=
  rB_fold (cut := fun i => Nat.beq i 3 || Nat.beq i 4) (f := 40) hy
set_option maxRecDepth 100000 in
theorem T_c_stopped_3 (d : Nat) (n0 z0 : Int) (Q : Int → mmH → Prop) (h : mmH) (v1 : Int) (v2 : Int) (v3 : Int) (v4 : Int) (v5 : Int) (v6 : Int) (w7 : mmV) (hy : mmG (Nat.beq (tSh (h 1 3)).1 2) (((mShl 1 ((tFc (h 1 3) 1).getD (h (h 1 3) 1))) ≤ v6 → (v4 = (-1) → Q v4 h) ∧ (¬ (v4 = (-1)) → (v2 ≠ 1 → Q v5 h) ∧ (¬ (v2 ≠ 1) → Q v4 h))) ∧ (¬ ((mShl 1 ((tFc (h 1 3) 1).getD (h (h 1 3) 1))) ≤ v6) → ((mAnd v6 v3) ≠ 0 → rB d k_c_stopped n0 z0 Q 3 [(3, 1), (1, v1), (1, v2), (1, v3), (1, v4), (1, v5), (1, (mAdd v6 1)), w7] [] h) ∧ (¬ ((mAnd v6 v3) ≠ 0) → rC d k_Roofs_tilesOf [86, v6] h (fun x1 h1 => (v4 = (-1) → rB d k_c_stopped n0 z0 Q 4 [(3, 1), (1, v1), (1, v2), (1, v3), (1, v4), (1, v5), (1, v6), (1, x1)] [] h1) ∧ (¬ (v4 = (-1)) → (v5 ≤ x1 → rB d k_c_stopped n0 z0 Q 3 [(3, 1), (1, v1), (1, v2), (1, v3), (1, v4), (1, v5), (1, (mAdd v6 1)), (1, x1)] [] h1) ∧ (¬ (v5 ≤ x1) → rB d k_c_stopped n0 z0 Q 4 [(3, 1), (1, v1), (1, v2), (1, v3), (1, v4), (1, v5), (1, v6), (1, x1)] [] h1))))))) : rB d k_c_stopped n0 z0 Q 3 [(3, 1), (1, v1), (1, v2), (1, v3), (1, v4), (1, v5), (1, v6), w7] [] h :=
  rB_fold (cut := fun i => Nat.beq i 3 || Nat.beq i 4) (f := 40) hy
set_option maxRecDepth 100000 in
theorem T_c_stopped_4 (d : Nat) (n0 z0 : Int) (Q : Int → mmH → Prop) (h : mmH) (v1 : Int) (v2 : Int) (v3 : Int) (v4 : Int) (v5 : Int) (v6 : Int) (v7 : Int) (hy : rC d k_Walk_arrives [96, (mAnd (h 96 3) (mXor v6 (-1)))] h (fun x1 h1 => (x1 ≠ 0 → rB d k_c_stopped n0 z0 Q 3 [(3, 1), (1, v1), (1, v2), (1, v3), (1, v4), (1, v5), (1, (mAdd v6 1)), (1, v7)] [] h1) ∧ (¬ (x1 ≠ 0) → rB d k_c_stopped n0 z0 Q 3 [(3, 1), (1, v1), (1, v2), (1, v3), (1, v6), (1, v7), (1, (mAdd v6 1)), (1, v7)] [] h1))) : rB d k_c_stopped n0 z0 Q 4 [(3, 1), (1, v1), (1, v2), (1, v3), (1, v4), (1, v5), (1, v6), (1, v7)] [] h :=
  rB_fold (cut := fun i => Nat.beq i 3 || Nat.beq i 4) (f := 40) hy
set_option maxRecDepth 100000 in
theorem T5_Town_storks_0 (d : Nat) (n0 z0 : Int) (Q : Int → mmH → Prop) (h : mmH)  (hy : rB d k_Town_storks n0 z0 Q 1 [(3, 5), (1, 0), (1, 0)] [] h) : rB d k_Town_storks n0 z0 Q 0 [(3, 5), (0, 0), (0, 0)] [] h :=
  rB_fold (cut := fun i => Nat.beq i 1) (f := 40) hy
set_option maxRecDepth 100000 in
theorem T5_Town_storks_1 (d : Nat) (n0 z0 : Int) (Q : Int → mmH → Prop) (h : mmH) (v1 : Int) (v2 : Int) (hy : ((h 5 1) ≤ v2 → Q v1 h) ∧ (¬ ((h 5 1) ≤ v2) → mmD ((0 : Int) ≤ v2 ∧ v2 < ((10 : Nat) : Int)) inferInstance (mmG (Nat.beq (tSh ((tFc 9 v2).getD (h 9 v2))).1 100) (mmD ((0 : Int) ≤ 4 ∧ 4 < ((tSh ((tFc 9 v2).getD (h 9 v2))).2 : Int)) inferInstance (rB d k_Town_storks n0 z0 Q 1 [(3, 5), (1, (mOr v1 (mShl ((tFc ((tFc 9 v2).getD (h 9 v2)) 4).getD (h ((tFc 9 v2).getD (h 9 v2)) 4)) v2))), (1, (mAdd v2 1))] [] h))))) : rB d k_Town_storks n0 z0 Q 1 [(3, 5), (1, v1), (1, v2)] [] h :=
  rB_fold (cut := fun i => Nat.beq i 1) (f := 40) hy
set_option maxRecDepth 100000 in
theorem T46_Town_storks_0 (d : Nat) (n0 z0 : Int) (Q : Int → mmH → Prop) (h : mmH)  (hy : rB d k_Town_storks n0 z0 Q 1 [(3, 46), (1, 0), (1, 0)] [] h) : rB d k_Town_storks n0 z0 Q 0 [(3, 46), (0, 0), (0, 0)] [] h :=
  rB_fold (cut := fun i => Nat.beq i 1) (f := 40) hy
set_option maxRecDepth 100000 in
theorem T46_Town_storks_1 (d : Nat) (n0 z0 : Int) (Q : Int → mmH → Prop) (h : mmH) (v1 : Int) (v2 : Int) (hy : ((h 46 1) ≤ v2 → Q v1 h) ∧ (¬ ((h 46 1) ≤ v2) → mmD ((0 : Int) ≤ v2 ∧ v2 < ((10 : Nat) : Int)) inferInstance (mmG (Nat.beq (tSh ((tFc 50 v2).getD (h 50 v2))).1 100) (mmD ((0 : Int) ≤ 4 ∧ 4 < ((tSh ((tFc 50 v2).getD (h 50 v2))).2 : Int)) inferInstance (rB d k_Town_storks n0 z0 Q 1 [(3, 46), (1, (mOr v1 (mShl ((tFc ((tFc 50 v2).getD (h 50 v2)) 4).getD (h ((tFc 50 v2).getD (h 50 v2)) 4)) v2))), (1, (mAdd v2 1))] [] h))))) : rB d k_Town_storks n0 z0 Q 1 [(3, 46), (1, v1), (1, v2)] [] h :=
  rB_fold (cut := fun i => Nat.beq i 1) (f := 40) hy
set_option maxRecDepth 100000 in
theorem T_c_opened_0 (d : Nat) (n0 z0 : Int) (Q : Int → mmH → Prop) (h : mmH) (a1 : Int) (a2 : Int) (hy : (a2 < 0 → Q (-1) h) ∧ (¬ (a2 < 0) → (1 < a2 → Q (-1) h) ∧ (¬ (1 < a2) → mmG (Nat.beq (tSh (h 1 3)).1 2) (rC d k_Town_isPerson [(h 1 3), a1] h (fun x1 h1 => (x1 ≠ 0 → rC d k_Walk_look [96, (h1 1 3), 86, a1] h1 (fun x2 h2 => rC d k_Walk_openIfLaid [96, (h2 1 3), 86, a1] h2 (fun x3 h3 => rB d k_c_opened n0 z0 Q 3 [(3, 1), (1, a1), (1, a2), (1, x3), (1, (-1)), (1, 0), (0, 0)] [] h3))) ∧ (¬ (x1 ≠ 0) → Q (-1) h1)))))) : rB d k_c_opened n0 z0 Q 0 [(3, 1), (1, a1), (1, a2), (0, 0), (0, 0), (0, 0), (0, 0)] [] h :=
  rB_fold (cut := fun i => Nat.beq i 3 || Nat.beq i 6) (f := 40) hy
set_option maxRecDepth 100000 in
theorem T_c_opened_3 (d : Nat) (n0 z0 : Int) (Q : Int → mmH → Prop) (h : mmH) (v1 : Int) (v2 : Int) (v3 : Int) (v4 : Int) (v5 : Int) (w6 : mmV) (hy : mmG (Nat.beq (tSh (h 1 3)).1 2) (((mShl 1 ((tFc (h 1 3) 1).getD (h (h 1 3) 1))) ≤ v5 → rC d k_c_countOrBits [v4, v2] h (fun x1 h1 => Q x1 h1)) ∧ (¬ ((mShl 1 ((tFc (h 1 3) 1).getD (h (h 1 3) 1))) ≤ v5) → (v4 = (-1) → rB d k_c_opened n0 z0 Q 6 [(3, 1), (1, v1), (1, v2), (1, v3), (1, v4), (1, v5), w6] [(1, 1)] h) ∧ (¬ (v4 = (-1)) → rC d k_jInteger_bitCount [v5] h (fun x2 h2 => rC d k_jInteger_bitCount [v4] h2 (fun x3 h3 => (x3 ≤ x2 → rB d k_c_opened n0 z0 Q 6 [(3, 1), (1, v1), (1, v2), (1, v3), (1, v4), (1, v5), w6] [(1, 0)] h3) ∧ (¬ (x3 ≤ x2) → rB d k_c_opened n0 z0 Q 6 [(3, 1), (1, v1), (1, v2), (1, v3), (1, v4), (1, v5), w6] [(1, 1)] h3))))))) : rB d k_c_opened n0 z0 Q 3 [(3, 1), (1, v1), (1, v2), (1, v3), (1, v4), (1, v5), w6] [] h :=
  rB_fold (cut := fun i => Nat.beq i 3 || Nat.beq i 6) (f := 40) hy
set_option maxRecDepth 100000 in
theorem T_c_opened_6 (d : Nat) (n0 z0 : Int) (Q : Int → mmH → Prop) (h : mmH) (v1 : Int) (v2 : Int) (v3 : Int) (v4 : Int) (v5 : Int) (w6 : mmV) (s0 : Int) (hy : ((mAnd v5 (mXor v3 (-1))) ≠ 0 → rB d k_c_opened n0 z0 Q 3 [(3, 1), (1, v1), (1, v2), (1, v3), (1, v4), (1, (mAdd v5 1)), (1, s0)] [] h) ∧ (¬ ((mAnd v5 (mXor v3 (-1))) ≠ 0) → (s0 = 0 → rB d k_c_opened n0 z0 Q 3 [(3, 1), (1, v1), (1, v2), (1, v3), (1, v4), (1, (mAdd v5 1)), (1, s0)] [] h) ∧ (¬ (s0 = 0) → rC d k_Walk_arrives [96, (mOr (h 96 3) v5)] h (fun x1 h1 => (x1 = 0 → rB d k_c_opened n0 z0 Q 3 [(3, 1), (1, v1), (1, v2), (1, v3), (1, v4), (1, (mAdd v5 1)), (1, s0)] [] h1) ∧ (¬ (x1 = 0) → rB d k_c_opened n0 z0 Q 3 [(3, 1), (1, v1), (1, v2), (1, v3), (1, v5), (1, (mAdd v5 1)), (1, s0)] [] h1))))) : rB d k_c_opened n0 z0 Q 6 [(3, 1), (1, v1), (1, v2), (1, v3), (1, v4), (1, v5), w6] [(1, s0)] h :=
  rB_fold (cut := fun i => Nat.beq i 3 || Nat.beq i 6) (f := 40) hy
set_option maxRecDepth 100000 in
theorem T_Walk_openIfLaid_0 (d : Nat) (n0 z0 : Int) (Q : Int → mmH → Prop) (h : mmH) (a1 : Int) (a2 : Int) (a3 : Int) (hy : rB d k_Walk_openIfLaid n0 z0 Q 1 [(3, 96), (3, a1), (3, a2), (1, a3), (1, 0), (1, 0)] [] h) : rB d k_Walk_openIfLaid n0 z0 Q 0 [(3, 96), (3, a1), (3, a2), (1, a3), (0, 0), (0, 0)] [] h :=
  rB_fold (cut := fun i => Nat.beq i 1) (f := 40) hy
set_option maxRecDepth 100000 in
theorem T_Walk_openIfLaid_1 (d : Nat) (n0 z0 : Int) (Q : Int → mmH → Prop) (h : mmH) (v1 : Int) (v2 : Int) (v3 : Int) (v4 : Int) (v5 : Int) (hy : ((h 96 0) ≤ v5 → Q v4 h) ∧ (¬ ((h 96 0) ≤ v5) → mmG (Nat.beq (tSh v2).1 4) (mmG (Nat.beq (tSh ((tFc v2 3).getD (h v2 3))).1 100) (mmD ((0 : Int) ≤ v5 ∧ v5 < ((tSh ((tFc v2 3).getD (h v2 3))).2 : Int)) inferInstance ((((tFc ((tFc v2 3).getD (h v2 3)) v5).getD (h ((tFc v2 3).getD (h v2 3)) v5)) ≠ 0 → rB d k_Walk_openIfLaid n0 z0 Q 1 [(3, 96), (3, v1), (3, v2), (1, v3), (1, v4), (1, (mAdd v5 1))] [] h) ∧ (¬ (((tFc ((tFc v2 3).getD (h v2 3)) v5).getD (h ((tFc v2 3).getD (h v2 3)) v5)) ≠ 0) → rC d k_Walk_tollAt [96, v1, v2, v3, v5, 1] h (fun x1 h1 => (x1 = (-1) → rB d k_Walk_openIfLaid n0 z0 Q 1 [(3, 96), (3, v1), (3, v2), (1, v3), (1, v4), (1, (mAdd v5 1))] [] h1) ∧ (¬ (x1 = (-1)) → rB d k_Walk_openIfLaid n0 z0 Q 1 [(3, 96), (3, v1), (3, v2), (1, v3), (1, (mOr v4 (mShl 1 v5))), (1, (mAdd v5 1))] [] h1)))))))) : rB d k_Walk_openIfLaid n0 z0 Q 1 [(3, 96), (3, v1), (3, v2), (1, v3), (1, v4), (1, v5)] [] h :=
  rB_fold (cut := fun i => Nat.beq i 1) (f := 40) hy
set_option maxRecDepth 100000 in
theorem T_c_broke_0 (d : Nat) (n0 z0 : Int) (Q : Int → mmH → Prop) (h : mmH) (a1 : Int) (a2 : Int) (a3 : Int) (hy : mmG (Nat.beq (tSh (h 1 3)).1 2) (rC d k_Town_isLot [(h 1 3), a1] h (fun x1 h1 => (x1 = 0 → Q (-1) h1) ∧ (¬ (x1 = 0) → (a2 < 0 → Q (-1) h1) ∧ (¬ (a2 < 0) → (a2 ≤ 9 → (a3 ≠ (-1) → (a3 ≠ 20 → mmG (Nat.beq (tSh (h1 1 3)).1 2) (rC d k_Town_isPerson [(h1 1 3), a3] h1 (fun x2 h2 => (x2 = 0 → Q (-1) h2) ∧ (¬ (x2 = 0) → rC d k_c_breakers [1, a1, a2] h2 (fun x3 h3 => rC d k_c_odds [x3, a3] h3 (fun x4 h4 => Q x4 h4)))))) ∧ (¬ (a3 ≠ 20) → rC d k_c_breakers [1, a1, a2] h1 (fun x5 h5 => Q x5 h5))) ∧ (¬ (a3 ≠ (-1)) → rC d k_c_breakers [1, a1, a2] h1 (fun x6 h6 => rC d k_jInteger_bitCount [x6] h6 (fun x7 h7 => Q x7 h7)))) ∧ (¬ (a2 ≤ 9) → Q (-1) h1)))))) : rB d k_c_broke n0 z0 Q 0 [(3, 1), (1, a1), (1, a2), (1, a3)] [] h :=
  rB_fold (cut := fun i => false) (f := 40) hy
set_option maxRecDepth 100000 in
theorem T_c_breakers_0 (d : Nat) (n0 z0 : Int) (Q : Int → mmH → Prop) (h : mmH) (a1 : Int) (a2 : Int) (hy : rB d k_c_breakers n0 z0 Q 1 [(3, 1), (1, a1), (1, a2), (1, 0), (1, 0), (0, 0)] [] h) : rB d k_c_breakers n0 z0 Q 0 [(3, 1), (1, a1), (1, a2), (0, 0), (0, 0), (0, 0)] [] h :=
  rB_fold (cut := fun i => Nat.beq i 1 || Nat.beq i 3) (f := 40) hy
set_option maxRecDepth 100000 in
theorem T_c_breakers_1 (d : Nat) (n0 z0 : Int) (Q : Int → mmH → Prop) (h : mmH) (v1 : Int) (v2 : Int) (v3 : Int) (v4 : Int) (w5 : mmV) (hy : mmG (Nat.beq (tSh (h 1 3)).1 2) ((((tFc (h 1 3) 3).getD (h (h 1 3) 3)) ≤ v4 → Q v3 h) ∧ (¬ (((tFc (h 1 3) 3).getD (h (h 1 3) 3)) ≤ v4) → mmG (Nat.beq (tSh (h 1 3)).1 2) (mmG (Nat.beq (tSh ((tFc (h 1 3) 10).getD (h (h 1 3) 10))).1 104) (mmD ((0 : Int) ≤ v4 ∧ v4 < ((tSh ((tFc (h 1 3) 10).getD (h (h 1 3) 10))).2 : Int)) inferInstance (mmG (Nat.beq (tSh ((tFc ((tFc (h 1 3) 10).getD (h (h 1 3) 10)) v4).getD (h ((tFc (h 1 3) 10).getD (h (h 1 3) 10)) v4))).1 100) (mmD ((0 : Int) ≤ 3 ∧ 3 < ((tSh ((tFc ((tFc (h 1 3) 10).getD (h (h 1 3) 10)) v4).getD (h ((tFc (h 1 3) 10).getD (h (h 1 3) 10)) v4))).2 : Int)) inferInstance ((((tFc ((tFc ((tFc (h 1 3) 10).getD (h (h 1 3) 10)) v4).getD (h ((tFc (h 1 3) 10).getD (h (h 1 3) 10)) v4)) 3).getD (h ((tFc ((tFc (h 1 3) 10).getD (h (h 1 3) 10)) v4).getD (h ((tFc (h 1 3) 10).getD (h (h 1 3) 10)) v4)) 3)) ≠ v2 → rB d k_c_breakers n0 z0 Q 3 [(3, 1), (1, v1), (1, v2), (1, v3), (1, v4), w5] [(1, 0)] h) ∧ (¬ (((tFc ((tFc ((tFc (h 1 3) 10).getD (h (h 1 3) 10)) v4).getD (h ((tFc (h 1 3) 10).getD (h (h 1 3) 10)) v4)) 3).getD (h ((tFc ((tFc (h 1 3) 10).getD (h (h 1 3) 10)) v4).getD (h ((tFc (h 1 3) 10).getD (h (h 1 3) 10)) v4)) 3)) ≠ v2) → rC d k_c_breaksAt [1, v4, v1] h (fun x1 h1 => (x1 = 0 → rB d k_c_breakers n0 z0 Q 3 [(3, 1), (1, v1), (1, v2), (1, v3), (1, v4), w5] [(1, 0)] h1) ∧ (¬ (x1 = 0) → rB d k_c_breakers n0 z0 Q 3 [(3, 1), (1, v1), (1, v2), (1, v3), (1, v4), w5] [(1, 1)] h1))))))))))) : rB d k_c_breakers n0 z0 Q 1 [(3, 1), (1, v1), (1, v2), (1, v3), (1, v4), w5] [] h :=
  rB_fold (cut := fun i => Nat.beq i 1 || Nat.beq i 3) (f := 40) hy
set_option maxRecDepth 100000 in
theorem T_c_breakers_3 (d : Nat) (n0 z0 : Int) (Q : Int → mmH → Prop) (h : mmH) (v1 : Int) (v2 : Int) (v3 : Int) (v4 : Int) (w5 : mmV) (s0 : Int) (hy : (s0 = 0 → rB d k_c_breakers n0 z0 Q 1 [(3, 1), (1, v1), (1, v2), (1, v3), (1, (mAdd v4 1)), (1, s0)] [] h) ∧ (¬ (s0 = 0) → rC d k_Walk_look [96, (h 1 3), 86, v4] h (fun x1 h1 => rC d k_Walk_seek [96] h1 (fun x2 h2 => (x2 = 0 → rB d k_c_breakers n0 z0 Q 1 [(3, 1), (1, v1), (1, v2), (1, (mOr v3 0)), (1, (mAdd v4 1)), (1, s0)] [] h2) ∧ (¬ (x2 = 0) → rC d k_Walk_comesTo [96, v1] h2 (fun x3 h3 => (x3 = 0 → rB d k_c_breakers n0 z0 Q 1 [(3, 1), (1, v1), (1, v2), (1, (mOr v3 0)), (1, (mAdd v4 1)), (1, s0)] [] h3) ∧ (¬ (x3 = 0) → rB d k_c_breakers n0 z0 Q 1 [(3, 1), (1, v1), (1, v2), (1, (mOr v3 (mShl 1 v4))), (1, (mAdd v4 1)), (1, s0)] [] h3))))))) : rB d k_c_breakers n0 z0 Q 3 [(3, 1), (1, v1), (1, v2), (1, v3), (1, v4), w5] [(1, s0)] h :=
  rB_fold (cut := fun i => Nat.beq i 1 || Nat.beq i 3) (f := 40) hy
end
section
/-! ===== mm: trees, by program ===== -/
set_option maxRecDepth 100000 in
theorem T_Walk_comesTo_0 (d : Nat) (n0 z0 : Int) (Q : Int → mmH → Prop) (h : mmH) (a1 : Int) (hy : rB d k_Walk_comesTo n0 z0 Q 1 [(3, 96), (1, a1), (1, 0)] [] h) : rB d k_Walk_comesTo n0 z0 Q 0 [(3, 96), (1, a1), (0, 0)] [] h :=
  rB_fold (cut := fun i => Nat.beq i 1) (f := 40) hy
set_option maxRecDepth 100000 in
theorem T_Walk_comesTo_1 (d : Nat) (n0 z0 : Int) (Q : Int → mmH → Prop) (h : mmH) (v1 : Int) (v2 : Int) (hy : ((h 96 5) ≤ v2 → Q 0 h) ∧ (¬ ((h 96 5) ≤ v2) → mmD ((0 : Int) ≤ v2 ∧ v2 < ((10 : Nat) : Int)) inferInstance (((h 99 v2) ≠ v1 → rB d k_Walk_comesTo n0 z0 Q 1 [(3, 96), (1, v1), (1, (mAdd v2 1))] [] h) ∧ (¬ ((h 99 v2) ≠ v1) → Q 1 h)))) : rB d k_Walk_comesTo n0 z0 Q 1 [(3, 96), (1, v1), (1, v2)] [] h :=
  rB_fold (cut := fun i => Nat.beq i 1) (f := 40) hy
set_option maxRecDepth 100000 in
theorem T_c_odds_0 (d : Nat) (n0 z0 : Int) (Q : Int → mmH → Prop) (h : mmH) (a0 : Int) (a1 : Int) (hy : rC d k_jInteger_bitCount [a0] h (fun x1 h1 => (x1 ≤ 0 → Q 0 h1) ∧ (¬ (x1 ≤ 0) → ((mAnd (mShr a0 a1) 1) ≠ 1 → Q 0 h1) ∧ (¬ ((mAnd (mShr a0 a1) 1) ≠ 1) → mmD (x1 ≠ 0) inferInstance (Q (mDiv 1000 x1) h1))))) : rB d k_c_odds n0 z0 Q 0 [(1, a0), (1, a1), (0, 0)] [] h :=
  rB_fold (cut := fun i => false) (f := 40) hy
set_option maxRecDepth 100000 in
theorem T_c_worth_0 (d : Nat) (n0 z0 : Int) (Q : Int → mmH → Prop) (h : mmH) (a1 : Int) (a2 : Int) (hy : mmG (Nat.beq (tSh (h 1 3)).1 2) (rC d k_Town_wideOf [(h 1 3), a1, a2] h (fun x1 h1 => (x1 ≠ (-1) → rB d k_c_worth n0 z0 Q 2 [(3, 1), (1, a1), (1, a2), (1, 0), (1, 0), (0, 0), (0, 0)] [] h1) ∧ (¬ (x1 ≠ (-1)) → Q (-1000000000) h1)))) : rB d k_c_worth n0 z0 Q 0 [(3, 1), (1, a1), (1, a2), (0, 0), (0, 0), (0, 0), (0, 0)] [] h :=
  rB_fold (cut := fun i => Nat.beq i 2 || Nat.beq i 4) (f := 40) hy
set_option maxRecDepth 100000 in
theorem T_c_worth_2 (d : Nat) (n0 z0 : Int) (Q : Int → mmH → Prop) (h : mmH) (v1 : Int) (v2 : Int) (v3 : Int) (v4 : Int) (w5 : mmV) (w6 : mmV) (hy : mmG (Nat.beq (tSh (h 1 3)).1 2) ((((tFc (h 1 3) 3).getD (h (h 1 3) 3)) ≤ v4 → Q v3 h) ∧ (¬ (((tFc (h 1 3) 3).getD (h (h 1 3) 3)) ≤ v4) → rC d k_Walk_look [96, (h 1 3), 86, v4] h (fun x1 h1 => rC d k_Walk_seek [96] h1 (fun x2 h2 => (x2 = 0 → rB d k_c_worth n0 z0 Q 4 [(3, 1), (1, v1), (1, v2), (1, v3), (1, v4), w5, w6] [(1, 1000)] h2) ∧ (¬ (x2 = 0) → rB d k_c_worth n0 z0 Q 4 [(3, 1), (1, v1), (1, v2), (1, v3), (1, v4), w5, w6] [(1, (h2 96 4))] h2)))))) : rB d k_c_worth n0 z0 Q 2 [(3, 1), (1, v1), (1, v2), (1, v3), (1, v4), w5, w6] [] h :=
  rB_fold (cut := fun i => Nat.beq i 2 || Nat.beq i 4) (f := 40) hy
set_option maxRecDepth 100000 in
theorem T_c_worth_4 (d : Nat) (n0 z0 : Int) (Q : Int → mmH → Prop) (h : mmH) (v1 : Int) (v2 : Int) (v3 : Int) (v4 : Int) (w5 : mmV) (w6 : mmV) (s0 : Int) (hy : rC d k_Walk_cut [96, v1, v2] h (fun x1 h1 => rC d k_Walk_seek [96] h1 (fun x2 h2 => (x2 = 0 → rB d k_c_worth n0 z0 Q 2 [(3, 1), (1, v1), (1, v2), (1, (mAdd v3 (mSub 1000 s0))), (1, (mAdd v4 1)), (1, s0), (1, 1000)] [] h2) ∧ (¬ (x2 = 0) → rB d k_c_worth n0 z0 Q 2 [(3, 1), (1, v1), (1, v2), (1, (mAdd v3 (mSub (h2 96 4) s0))), (1, (mAdd v4 1)), (1, s0), (1, (h2 96 4))] [] h2)))) : rB d k_c_worth n0 z0 Q 4 [(3, 1), (1, v1), (1, v2), (1, v3), (1, v4), w5, w6] [(1, s0)] h :=
  rB_fold (cut := fun i => Nat.beq i 2 || Nat.beq i 4) (f := 40) hy
set_option maxRecDepth 100000 in
theorem T_Walk_cut_0 (d : Nat) (n0 z0 : Int) (Q : Int → mmH → Prop) (h : mmH) (a1 : Int) (a2 : Int) (hy : mmD ((0 : Int) ≤ a1 ∧ a1 < ((10 : Nat) : Int)) inferInstance (mmD ((0 : Int) ≤ a1 ∧ a1 < ((10 : Nat) : Int)) inferInstance (mmD ((0 : Int) ≤ a2 ∧ a2 < ((10 : Nat) : Int)) inferInstance (mmD ((0 : Int) ≤ a2 ∧ a2 < ((10 : Nat) : Int)) inferInstance (Q 0 (mmS (mmS h 97 a1 (mAnd (h 97 a1) (mXor (mShl 1 a2) (-1)))) 97 a2 (mAnd ((mmS h 97 a1 (mAnd (h 97 a1) (mXor (mShl 1 a2) (-1)))) 97 a2) (mXor (mShl 1 a1) (-1))))))))) : rB d k_Walk_cut n0 z0 Q 0 [(3, 96), (1, a1), (1, a2)] [] h :=
  rB_fold (cut := fun i => false) (f := 40) hy
set_option maxRecDepth 100000 in
theorem T_c_reach_0 (d : Nat) (n0 z0 : Int) (Q : Int → mmH → Prop) (h : mmH) (a1 : Int) (hy : mmG (Nat.beq (tSh (h 1 3)).1 2) (rC d k_Town_isPerson [(h 1 3), a1] h (fun x1 h1 => (x1 ≠ 0 → rC d k_Walk_look [96, (h1 1 3), 86, a1] h1 (fun x2 h2 => rC d k_Walk_reached [96, (h2 96 3)] h2 (fun x3 h3 => Q x3 h3))) ∧ (¬ (x1 ≠ 0) → Q (-1) h1)))) : rB d k_c_reach n0 z0 Q 0 [(3, 1), (1, a1)] [] h :=
  rB_fold (cut := fun i => false) (f := 40) hy
set_option maxRecDepth 100000 in
theorem T_c_image_0 (d : Nat) (n0 z0 : Int) (Q : Int → mmH → Prop) (h : mmH)  (hy : rC d k_c_shoot [1, (mShr (h 86 0) 8)] (mmS h 1 11 0) (fun x1 h1 => rC d k_c_shoot [1, (h1 86 0)] h1 (fun x2 h2 => rC d k_c_shoot [1, (h2 86 1)] h2 (fun x3 h3 => rB d k_c_image n0 z0 Q 1 [(3, 1), (1, 0), (0, 0)] [] h3)))) : rB d k_c_image n0 z0 Q 0 [(3, 1), (0, 0), (0, 0)] [] h :=
  rB_fold (cut := fun i => Nat.beq i 1 || Nat.beq i 3 || Nat.beq i 5 || Nat.beq i 6) (f := 40) hy
set_option maxRecDepth 100000 in
theorem T_c_image_1 (d : Nat) (n0 z0 : Int) (Q : Int → mmH → Prop) (h : mmH) (v1 : Int) (hy : mmG (Nat.beq (tSh (h 1 3)).1 2) ((((tFc (h 1 3) 1).getD (h (h 1 3) 1)) ≤ v1 → rB d k_c_image n0 z0 Q 3 [(3, 1), (1, 0), (0, 0)] [] h) ∧ (¬ (((tFc (h 1 3) 1).getD (h (h 1 3) 1)) ≤ v1) → mmD ((0 : Int) ≤ v1 ∧ v1 < ((10 : Nat) : Int)) inferInstance (rC d k_c_shoot [1, (h 87 v1)] h (fun x1 h1 => rB d k_c_image n0 z0 Q 1 [(3, 1), (1, (mAdd v1 1)), (0, 0)] [] h1))))) : rB d k_c_image n0 z0 Q 1 [(3, 1), (1, v1), (0, 0)] [] h :=
  rB_fold (cut := fun i => Nat.beq i 1 || Nat.beq i 3 || Nat.beq i 5 || Nat.beq i 6) (f := 40) hy
set_option maxRecDepth 100000 in
theorem T_c_image_3 (d : Nat) (n0 z0 : Int) (Q : Int → mmH → Prop) (h : mmH) (v1 : Int) (hy : mmG (Nat.beq (tSh (h 1 3)).1 2) ((((tFc (h 1 3) 3).getD (h (h 1 3) 3)) ≤ v1 → rB d k_c_image n0 z0 Q 5 [(3, 1), (1, 0), (0, 0)] [] h) ∧ (¬ (((tFc (h 1 3) 3).getD (h (h 1 3) 3)) ≤ v1) → mmD ((0 : Int) ≤ v1 ∧ v1 < ((6 : Nat) : Int)) inferInstance (rC d k_c_shoot [1, (h 88 v1)] h (fun x1 h1 => mmD ((0 : Int) ≤ v1 ∧ v1 < ((6 : Nat) : Int)) inferInstance (rC d k_c_shoot [1, (h1 89 v1)] h1 (fun x2 h2 => rB d k_c_image n0 z0 Q 3 [(3, 1), (1, (mAdd v1 1)), (0, 0)] [] h2))))))) : rB d k_c_image n0 z0 Q 3 [(3, 1), (1, v1), (0, 0)] [] h :=
  rB_fold (cut := fun i => Nat.beq i 1 || Nat.beq i 3 || Nat.beq i 5 || Nat.beq i 6) (f := 40) hy
set_option maxRecDepth 100000 in
theorem T_c_image_5 (d : Nat) (n0 z0 : Int) (Q : Int → mmH → Prop) (h : mmH) (v1 : Int) (w2 : mmV) (hy : mmG (Nat.beq (tSh (h 1 3)).1 2) ((((tFc (h 1 3) 0).getD (h (h 1 3) 0)) ≤ v1 → rC d k_c_checkByte [101, (h 1 11)] h (fun x1 h1 => rC d k_c_shoot [1, x1] h1 (fun x2 h2 => Q (h2 1 11) h2))) ∧ (¬ (((tFc (h 1 3) 0).getD (h (h 1 3) 0)) ≤ v1) → rB d k_c_image n0 z0 Q 6 [(3, 1), (1, v1), (1, 24)] [] h))) : rB d k_c_image n0 z0 Q 5 [(3, 1), (1, v1), w2] [] h :=
  rB_fold (cut := fun i => Nat.beq i 1 || Nat.beq i 3 || Nat.beq i 5 || Nat.beq i 6) (f := 40) hy
set_option maxRecDepth 100000 in
theorem T_c_image_6 (d : Nat) (n0 z0 : Int) (Q : Int → mmH → Prop) (h : mmH) (v1 : Int) (v2 : Int) (hy : (v2 < 0 → rB d k_c_image n0 z0 Q 5 [(3, 1), (1, (mAdd v1 1)), (1, v2)] [] h) ∧ (¬ (v2 < 0) → mmD ((0 : Int) ≤ v1 ∧ v1 < ((5 : Nat) : Int)) inferInstance (rC d k_c_shoot [1, (mShr (h 90 v1) v2)] h (fun x1 h1 => rB d k_c_image n0 z0 Q 6 [(3, 1), (1, v1), (1, (mAdd v2 (-8)))] [] h1)))) : rB d k_c_image n0 z0 Q 6 [(3, 1), (1, v1), (1, v2)] [] h :=
  rB_fold (cut := fun i => Nat.beq i 1 || Nat.beq i 3 || Nat.beq i 5 || Nat.beq i 6) (f := 40) hy
set_option maxRecDepth 100000 in
theorem T_c_shoot_0 (d : Nat) (n0 z0 : Int) (Q : Int → mmH → Prop) (h : mmH) (a1 : Int) (hy : (46 ≤ (h 1 11) → Q 0 h) ∧ (¬ (46 ≤ (h 1 11)) → mmD ((0 : Int) ≤ (h 1 11) ∧ (h 1 11) < ((46 : Nat) : Int)) inferInstance (Q 0 (mmS (mmS h 101 (h 1 11) (mAnd a1 255)) 1 11 (mAdd (h 1 11) 1))))) : rB d k_c_shoot n0 z0 Q 0 [(3, 1), (1, a1)] [] h :=
  rB_fold (cut := fun i => false) (f := 40) hy
set_option maxRecDepth 100000 in
theorem T_c_checkByte_0 (d : Nat) (n0 z0 : Int) (Q : Int → mmH → Prop) (h : mmH) (a0 : Int) (a1 : Int) (hy : rB d k_c_checkByte n0 z0 Q 1 [(3, a0), (1, a1), (1, 131), (1, 0)] [] h) : rB d k_c_checkByte n0 z0 Q 0 [(3, a0), (1, a1), (0, 0), (0, 0)] [] h :=
  rB_fold (cut := fun i => Nat.beq i 1) (f := 40) hy
set_option maxRecDepth 100000 in
theorem T_c_checkByte_1 (d : Nat) (n0 z0 : Int) (Q : Int → mmH → Prop) (h : mmH) (v0 : Int) (v1 : Int) (v2 : Int) (v3 : Int) (hy : (v1 ≤ v3 → Q v2 h) ∧ (¬ (v1 ≤ v3) → mmG (Nat.ble 100 (tSh v0).1) ((((tSh v0).2 : Int) ≤ v3 → Q v2 h) ∧ (¬ (((tSh v0).2 : Int) ≤ v3) → mmG (Nat.beq (tSh v0).1 100) (mmD ((0 : Int) ≤ v3 ∧ v3 < ((tSh v0).2 : Int)) inferInstance (rB d k_c_checkByte n0 z0 Q 1 [(3, v0), (1, v1), (1, (mRem (mAdd (mMul 3 v2) ((tFc v0 v3).getD (h v0 v3))) 253)), (1, (mAdd v3 1))] [] h)))))) : rB d k_c_checkByte n0 z0 Q 1 [(3, v0), (1, v1), (1, v2), (1, v3)] [] h :=
  rB_fold (cut := fun i => Nat.beq i 1) (f := 40) hy
set_option maxRecDepth 100000 in
theorem T_c_octet_0 (d : Nat) (n0 z0 : Int) (Q : Int → mmH → Prop) (h : mmH) (a1 : Int) (hy : (a1 < 0 → Q (-1) h) ∧ (¬ (a1 < 0) → ((h 1 11) ≤ a1 → Q (-1) h) ∧ (¬ ((h 1 11) ≤ a1) → mmD ((0 : Int) ≤ a1 ∧ a1 < ((46 : Nat) : Int)) inferInstance (Q (h 101 a1) h)))) : rB d k_c_octet n0 z0 Q 0 [(3, 1), (1, a1)] [] h :=
  rB_fold (cut := fun i => false) (f := 40) hy
set_option maxRecDepth 100000 in
theorem T_c_on_0 (d : Nat) (n0 z0 : Int) (Q : Int → mmH → Prop) (h : mmH)  (hy : rC d k_c_isImage [1, (h 1 1)] (mmS h 1 1 0) (fun x1 h1 => (x1 ≠ 0 → rC d k_Roofs_load [86, 2, (h1 1 3)] h1 (fun x2 h2 => Q 1 (mmS h2 1 7 0))) ∧ (¬ (x1 ≠ 0) → Q 0 h1))) : rB d k_c_on n0 z0 Q 0 [(3, 1), (0, 0)] [] h :=
  rB_fold (cut := fun i => false) (f := 40) hy
set_option maxRecDepth 100000 in
theorem T_c_isImage_0 (d : Nat) (n0 z0 : Int) (Q : Int → mmH → Prop) (h : mmH) (a1 : Int) (hy : mmG (Nat.beq (tSh (h 1 3)).1 2) (mmG (Nat.beq (tSh (h 1 3)).1 2) (mmG (Nat.beq (tSh (h 1 3)).1 2) ((a1 ≠ (mAdd (mAdd (mAdd (mAdd 3 ((tFc (h 1 3) 1).getD (h (h 1 3) 1))) (mMul 2 ((tFc (h 1 3) 3).getD (h (h 1 3) 3)))) (mMul 4 ((tFc (h 1 3) 0).getD (h (h 1 3) 0)))) 1) → Q 0 h) ∧ (¬ (a1 ≠ (mAdd (mAdd (mAdd (mAdd 3 ((tFc (h 1 3) 1).getD (h (h 1 3) 1))) (mMul 2 ((tFc (h 1 3) 3).getD (h (h 1 3) 3)))) (mMul 4 ((tFc (h 1 3) 0).getD (h (h 1 3) 0)))) 1)) → mmD ((0 : Int) ≤ (mSub (mAdd (mAdd (mAdd (mAdd 3 ((tFc (h 1 3) 1).getD (h (h 1 3) 1))) (mMul 2 ((tFc (h 1 3) 3).getD (h (h 1 3) 3)))) (mMul 4 ((tFc (h 1 3) 0).getD (h (h 1 3) 0)))) 1) 1) ∧ (mSub (mAdd (mAdd (mAdd (mAdd 3 ((tFc (h 1 3) 1).getD (h (h 1 3) 1))) (mMul 2 ((tFc (h 1 3) 3).getD (h (h 1 3) 3)))) (mMul 4 ((tFc (h 1 3) 0).getD (h (h 1 3) 0)))) 1) 1) < ((1600 : Nat) : Int)) inferInstance (rC d k_c_checkByte [2, (mSub (mAdd (mAdd (mAdd (mAdd 3 ((tFc (h 1 3) 1).getD (h (h 1 3) 1))) (mMul 2 ((tFc (h 1 3) 3).getD (h (h 1 3) 3)))) (mMul 4 ((tFc (h 1 3) 0).getD (h (h 1 3) 0)))) 1) 1)] h (fun x1 h1 => ((h 2 (mSub (mAdd (mAdd (mAdd (mAdd 3 ((tFc (h 1 3) 1).getD (h (h 1 3) 1))) (mMul 2 ((tFc (h 1 3) 3).getD (h (h 1 3) 3)))) (mMul 4 ((tFc (h 1 3) 0).getD (h (h 1 3) 0)))) 1) 1)) = x1 → (999 < (mAdd (mMul (h1 2 0) 256) (h1 2 1)) → Q 0 h1) ∧ (¬ (999 < (mAdd (mMul (h1 2 0) 256) (h1 2 1))) → ((h1 2 2) ≤ 9 → rB d k_c_isImage n0 z0 Q 5 [(3, 1), (1, a1), (1, (mAdd (mAdd (mAdd (mAdd 3 ((tFc (h 1 3) 1).getD (h (h 1 3) 1))) (mMul 2 ((tFc (h 1 3) 3).getD (h (h 1 3) 3)))) (mMul 4 ((tFc (h 1 3) 0).getD (h (h 1 3) 0)))) 1)), (1, 0), (0, 0)] [] h1) ∧ (¬ ((h1 2 2) ≤ 9) → Q 0 h1))) ∧ (¬ ((h 2 (mSub (mAdd (mAdd (mAdd (mAdd 3 ((tFc (h 1 3) 1).getD (h (h 1 3) 1))) (mMul 2 ((tFc (h 1 3) 3).getD (h (h 1 3) 3)))) (mMul 4 ((tFc (h 1 3) 0).getD (h (h 1 3) 0)))) 1) 1)) = x1) → Q 0 h1)))))))) : rB d k_c_isImage n0 z0 Q 0 [(3, 1), (1, a1), (0, 0), (0, 0), (0, 0)] [] h :=
  rB_fold (cut := fun i => Nat.beq i 5 || Nat.beq i 8) (f := 40) hy
set_option maxRecDepth 100000 in
theorem T_c_isImage_5 (d : Nat) (n0 z0 : Int) (Q : Int → mmH → Prop) (h : mmH) (v1 : Int) (v2 : Int) (v3 : Int) (hy : mmG (Nat.beq (tSh (h 1 3)).1 2) ((((tFc (h 1 3) 1).getD (h (h 1 3) 1)) ≤ v3 → rB d k_c_isImage n0 z0 Q 8 [(3, 1), (1, v1), (1, v2), (1, 0), (0, 0)] [] h) ∧ (¬ (((tFc (h 1 3) 1).getD (h (h 1 3) 1)) ≤ v3) → mmD ((0 : Int) ≤ (mAdd 3 v3) ∧ (mAdd 3 v3) < ((1600 : Nat) : Int)) inferInstance (((h 2 (mAdd 3 v3)) ≤ 30 → rB d k_c_isImage n0 z0 Q 5 [(3, 1), (1, v1), (1, v2), (1, (mAdd v3 1)), (0, 0)] [] h) ∧ (¬ ((h 2 (mAdd 3 v3)) ≤ 30) → Q 0 h))))) : rB d k_c_isImage n0 z0 Q 5 [(3, 1), (1, v1), (1, v2), (1, v3), (0, 0)] [] h :=
  rB_fold (cut := fun i => Nat.beq i 5 || Nat.beq i 8) (f := 40) hy
set_option maxRecDepth 100000 in
theorem T_c_isImage_8 (d : Nat) (n0 z0 : Int) (Q : Int → mmH → Prop) (h : mmH) (v1 : Int) (v2 : Int) (v3 : Int) (w4 : mmV) (hy : mmG (Nat.beq (tSh (h 1 3)).1 2) ((((tFc (h 1 3) 3).getD (h (h 1 3) 3)) ≤ v3 → Q 1 h) ∧ (¬ (((tFc (h 1 3) 3).getD (h (h 1 3) 3)) ≤ v3) → mmG (Nat.beq (tSh (h 1 3)).1 2) (mmD ((0 : Int) ≤ (mAdd (mAdd 3 ((tFc (h 1 3) 1).getD (h (h 1 3) 1))) (mMul 2 v3)) ∧ (mAdd (mAdd 3 ((tFc (h 1 3) 1).getD (h (h 1 3) 1))) (mMul 2 v3)) < ((1600 : Nat) : Int)) inferInstance (mmD ((0 : Int) ≤ (mAdd (mAdd (mAdd 3 ((tFc (h 1 3) 1).getD (h (h 1 3) 1))) (mMul 2 v3)) 1) ∧ (mAdd (mAdd (mAdd 3 ((tFc (h 1 3) 1).getD (h (h 1 3) 1))) (mMul 2 v3)) 1) < ((1600 : Nat) : Int)) inferInstance (mmG (Nat.beq (tSh (h 1 3)).1 2) (rC d k_Town_goesBetween [(h 1 3), v3, (h 2 (mAdd (mAdd 3 ((tFc (h 1 3) 1).getD (h (h 1 3) 1))) (mMul 2 v3))), (h 2 (mAdd (mAdd (mAdd 3 ((tFc (h 1 3) 1).getD (h (h 1 3) 1))) (mMul 2 v3)) 1))] h (fun x1 h1 => (x1 ≠ 0 → rB d k_c_isImage n0 z0 Q 8 [(3, 1), (1, v1), (1, v2), (1, (mAdd v3 1)), (1, (mAdd (mAdd 3 ((tFc (h 1 3) 1).getD (h (h 1 3) 1))) (mMul 2 v3)))] [] h1) ∧ (¬ (x1 ≠ 0) → Q 0 h1))))))))) : rB d k_c_isImage n0 z0 Q 8 [(3, 1), (1, v1), (1, v2), (1, v3), w4] [] h :=
  rB_fold (cut := fun i => Nat.beq i 5 || Nat.beq i 8) (f := 40) hy
set_option maxRecDepth 100000 in
theorem T5_Town_goesBetween_0 (d : Nat) (n0 z0 : Int) (Q : Int → mmH → Prop) (h : mmH) (a1 : Int) (a2 : Int) (a3 : Int) (hy : mmD ((0 : Int) ≤ a1 ∧ a1 < ((6 : Nat) : Int)) inferInstance (mmG (Nat.beq (tSh ((tFc 20 a1).getD (h 20 a1))).1 100) (mmD ((0 : Int) ≤ 4 ∧ 4 < ((tSh ((tFc 20 a1).getD (h 20 a1))).2 : Int)) inferInstance (mmD ((0 : Int) ≤ a1 ∧ a1 < ((6 : Nat) : Int)) inferInstance (mmG (Nat.beq (tSh ((tFc 20 a1).getD (h 20 a1))).1 100) (mmD ((0 : Int) ≤ 5 ∧ 5 < ((tSh ((tFc 20 a1).getD (h 20 a1))).2 : Int)) inferInstance ((a2 ≠ ((tFc ((tFc 20 a1).getD (h 20 a1)) 4).getD (h ((tFc 20 a1).getD (h 20 a1)) 4)) → rB d k_Town_goesBetween n0 z0 Q 1 [(3, 5), (1, a1), (1, a2), (1, a3), (1, ((tFc ((tFc 20 a1).getD (h 20 a1)) 4).getD (h ((tFc 20 a1).getD (h 20 a1)) 4))), (1, ((tFc ((tFc 20 a1).getD (h 20 a1)) 5).getD (h ((tFc 20 a1).getD (h 20 a1)) 5)))] [] h) ∧ (¬ (a2 ≠ ((tFc ((tFc 20 a1).getD (h 20 a1)) 4).getD (h ((tFc 20 a1).getD (h 20 a1)) 4))) → (a3 = ((tFc ((tFc 20 a1).getD (h 20 a1)) 5).getD (h ((tFc 20 a1).getD (h 20 a1)) 5)) → Q 1 h) ∧ (¬ (a3 = ((tFc ((tFc 20 a1).getD (h 20 a1)) 5).getD (h ((tFc 20 a1).getD (h 20 a1)) 5))) → rB d k_Town_goesBetween n0 z0 Q 1 [(3, 5), (1, a1), (1, a2), (1, a3), (1, ((tFc ((tFc 20 a1).getD (h 20 a1)) 4).getD (h ((tFc 20 a1).getD (h 20 a1)) 4))), (1, ((tFc ((tFc 20 a1).getD (h 20 a1)) 5).getD (h ((tFc 20 a1).getD (h 20 a1)) 5)))] [] h))))))))) : rB d k_Town_goesBetween n0 z0 Q 0 [(3, 5), (1, a1), (1, a2), (1, a3), (0, 0), (0, 0)] [] h :=
  rB_fold (cut := fun i => Nat.beq i 1) (f := 40) hy
set_option maxRecDepth 100000 in
theorem T5_Town_goesBetween_1 (d : Nat) (n0 z0 : Int) (Q : Int → mmH → Prop) (h : mmH) (v1 : Int) (v2 : Int) (v3 : Int) (v4 : Int) (v5 : Int) (hy : (v2 ≠ v5 → Q 0 h) ∧ (¬ (v2 ≠ v5) → (v3 ≠ v4 → Q 0 h) ∧ (¬ (v3 ≠ v4) → Q 1 h))) : rB d k_Town_goesBetween n0 z0 Q 1 [(3, 5), (1, v1), (1, v2), (1, v3), (1, v4), (1, v5)] [] h :=
  rB_fold (cut := fun i => Nat.beq i 1) (f := 40) hy
set_option maxRecDepth 100000 in
theorem T46_Town_goesBetween_0 (d : Nat) (n0 z0 : Int) (Q : Int → mmH → Prop) (h : mmH) (a1 : Int) (a2 : Int) (a3 : Int) (hy : mmD ((0 : Int) ≤ a1 ∧ a1 < ((6 : Nat) : Int)) inferInstance (mmG (Nat.beq (tSh ((tFc 61 a1).getD (h 61 a1))).1 100) (mmD ((0 : Int) ≤ 4 ∧ 4 < ((tSh ((tFc 61 a1).getD (h 61 a1))).2 : Int)) inferInstance (mmD ((0 : Int) ≤ a1 ∧ a1 < ((6 : Nat) : Int)) inferInstance (mmG (Nat.beq (tSh ((tFc 61 a1).getD (h 61 a1))).1 100) (mmD ((0 : Int) ≤ 5 ∧ 5 < ((tSh ((tFc 61 a1).getD (h 61 a1))).2 : Int)) inferInstance ((a2 ≠ ((tFc ((tFc 61 a1).getD (h 61 a1)) 4).getD (h ((tFc 61 a1).getD (h 61 a1)) 4)) → rB d k_Town_goesBetween n0 z0 Q 1 [(3, 46), (1, a1), (1, a2), (1, a3), (1, ((tFc ((tFc 61 a1).getD (h 61 a1)) 4).getD (h ((tFc 61 a1).getD (h 61 a1)) 4))), (1, ((tFc ((tFc 61 a1).getD (h 61 a1)) 5).getD (h ((tFc 61 a1).getD (h 61 a1)) 5)))] [] h) ∧ (¬ (a2 ≠ ((tFc ((tFc 61 a1).getD (h 61 a1)) 4).getD (h ((tFc 61 a1).getD (h 61 a1)) 4))) → (a3 = ((tFc ((tFc 61 a1).getD (h 61 a1)) 5).getD (h ((tFc 61 a1).getD (h 61 a1)) 5)) → Q 1 h) ∧ (¬ (a3 = ((tFc ((tFc 61 a1).getD (h 61 a1)) 5).getD (h ((tFc 61 a1).getD (h 61 a1)) 5))) → rB d k_Town_goesBetween n0 z0 Q 1 [(3, 46), (1, a1), (1, a2), (1, a3), (1, ((tFc ((tFc 61 a1).getD (h 61 a1)) 4).getD (h ((tFc 61 a1).getD (h 61 a1)) 4))), (1, ((tFc ((tFc 61 a1).getD (h 61 a1)) 5).getD (h ((tFc 61 a1).getD (h 61 a1)) 5)))] [] h))))))))) : rB d k_Town_goesBetween n0 z0 Q 0 [(3, 46), (1, a1), (1, a2), (1, a3), (0, 0), (0, 0)] [] h :=
  rB_fold (cut := fun i => Nat.beq i 1) (f := 40) hy
set_option maxRecDepth 100000 in
theorem T46_Town_goesBetween_1 (d : Nat) (n0 z0 : Int) (Q : Int → mmH → Prop) (h : mmH) (v1 : Int) (v2 : Int) (v3 : Int) (v4 : Int) (v5 : Int) (hy : (v2 ≠ v5 → Q 0 h) ∧ (¬ (v2 ≠ v5) → (v3 ≠ v4 → Q 0 h) ∧ (¬ (v3 ≠ v4) → Q 1 h))) : rB d k_Town_goesBetween n0 z0 Q 1 [(3, 46), (1, v1), (1, v2), (1, v3), (1, v4), (1, v5)] [] h :=
  rB_fold (cut := fun i => Nat.beq i 1) (f := 40) hy
set_option maxRecDepth 100000 in
theorem T_Roofs_load_0 (d : Nat) (n0 z0 : Int) (Q : Int → mmH → Prop) (h : mmH) (a1 : Int) (a2 : Int) (hy : mmG (Nat.beq (tSh a1).1 100) (mmD ((0 : Int) ≤ 0 ∧ 0 < ((tSh a1).2 : Int)) inferInstance (mmG (Nat.beq (tSh a1).1 100) (mmD ((0 : Int) ≤ 1 ∧ 1 < ((tSh a1).2 : Int)) inferInstance (mmG (Nat.beq (tSh a1).1 100) (mmD ((0 : Int) ≤ 2 ∧ 2 < ((tSh a1).2 : Int)) inferInstance (rB d k_Roofs_load n0 z0 Q 1 [(3, 86), (3, a1), (3, a2), (1, 3), (1, 0)] [] (mmS (mmS (mmS h 86 0 (mAdd (mMul ((tFc a1 0).getD (h a1 0)) 256) ((tFc a1 1).getD (h a1 1)))) 86 1 ((tFc a1 2).getD ((mmS h 86 0 (mAdd (mMul ((tFc a1 0).getD (h a1 0)) 256) ((tFc a1 1).getD (h a1 1)))) a1 2))) 86 2 0)))))))) : rB d k_Roofs_load n0 z0 Q 0 [(3, 86), (3, a1), (3, a2), (0, 0), (0, 0)] [] h :=
  rB_fold (cut := fun i => Nat.beq i 1 || Nat.beq i 3 || Nat.beq i 5) (f := 40) hy
set_option maxRecDepth 100000 in
theorem T_Roofs_load_1 (d : Nat) (n0 z0 : Int) (Q : Int → mmH → Prop) (h : mmH) (v1 : Int) (v2 : Int) (v3 : Int) (v4 : Int) (hy : mmG (Nat.beq (tSh v2).1 2) ((((tFc v2 1).getD (h v2 1)) ≤ v4 → rB d k_Roofs_load n0 z0 Q 3 [(3, 86), (3, v1), (3, v2), (1, v3), (1, 0)] [] h) ∧ (¬ (((tFc v2 1).getD (h v2 1)) ≤ v4) → mmG (Nat.beq (tSh v1).1 100) (mmD ((0 : Int) ≤ v3 ∧ v3 < ((tSh v1).2 : Int)) inferInstance (mmD ((0 : Int) ≤ v4 ∧ v4 < ((10 : Nat) : Int)) inferInstance (rB d k_Roofs_load n0 z0 Q 1 [(3, 86), (3, v1), (3, v2), (1, (mAdd v3 1)), (1, (mAdd v4 1))] [] (mmS h 87 v4 ((tFc v1 v3).getD (h v1 v3))))))))) : rB d k_Roofs_load n0 z0 Q 1 [(3, 86), (3, v1), (3, v2), (1, v3), (1, v4)] [] h :=
  rB_fold (cut := fun i => Nat.beq i 1 || Nat.beq i 3 || Nat.beq i 5) (f := 40) hy
set_option maxRecDepth 100000 in
theorem T_Roofs_load_3 (d : Nat) (n0 z0 : Int) (Q : Int → mmH → Prop) (h : mmH) (v1 : Int) (v2 : Int) (v3 : Int) (v4 : Int) (hy : mmG (Nat.beq (tSh v2).1 2) ((((tFc v2 3).getD (h v2 3)) ≤ v4 → rB d k_Roofs_load n0 z0 Q 5 [(3, 86), (3, v1), (3, v2), (1, v3), (1, 0)] [] h) ∧ (¬ (((tFc v2 3).getD (h v2 3)) ≤ v4) → mmG (Nat.beq (tSh v1).1 100) (mmD ((0 : Int) ≤ v3 ∧ v3 < ((tSh v1).2 : Int)) inferInstance (mmD ((0 : Int) ≤ v4 ∧ v4 < ((6 : Nat) : Int)) inferInstance (mmG (Nat.beq (tSh v1).1 100) (mmD ((0 : Int) ≤ (mAdd v3 1) ∧ (mAdd v3 1) < ((tSh v1).2 : Int)) inferInstance (mmD ((0 : Int) ≤ v4 ∧ v4 < ((6 : Nat) : Int)) inferInstance (rB d k_Roofs_load n0 z0 Q 3 [(3, 86), (3, v1), (3, v2), (1, (mAdd v3 2)), (1, (mAdd v4 1))] [] (mmS (mmS h 88 v4 ((tFc v1 v3).getD (h v1 v3))) 89 v4 ((tFc v1 (mAdd v3 1)).getD ((mmS h 88 v4 ((tFc v1 v3).getD (h v1 v3))) v1 (mAdd v3 1))))))))))))) : rB d k_Roofs_load n0 z0 Q 3 [(3, 86), (3, v1), (3, v2), (1, v3), (1, v4)] [] h :=
  rB_fold (cut := fun i => Nat.beq i 1 || Nat.beq i 3 || Nat.beq i 5) (f := 40) hy
set_option maxRecDepth 100000 in
theorem T_Roofs_load_5 (d : Nat) (n0 z0 : Int) (Q : Int → mmH → Prop) (h : mmH) (v1 : Int) (v2 : Int) (v3 : Int) (v4 : Int) (hy : mmG (Nat.beq (tSh v2).1 2) ((((tFc v2 0).getD (h v2 0)) ≤ v4 → Q 0 h) ∧ (¬ (((tFc v2 0).getD (h v2 0)) ≤ v4) → mmG (Nat.beq (tSh v1).1 100) (mmD ((0 : Int) ≤ v3 ∧ v3 < ((tSh v1).2 : Int)) inferInstance (mmG (Nat.beq (tSh v1).1 100) (mmD ((0 : Int) ≤ (mAdd v3 1) ∧ (mAdd v3 1) < ((tSh v1).2 : Int)) inferInstance (mmG (Nat.beq (tSh v1).1 100) (mmD ((0 : Int) ≤ (mAdd v3 2) ∧ (mAdd v3 2) < ((tSh v1).2 : Int)) inferInstance (mmG (Nat.beq (tSh v1).1 100) (mmD ((0 : Int) ≤ (mAdd v3 3) ∧ (mAdd v3 3) < ((tSh v1).2 : Int)) inferInstance (mmD ((0 : Int) ≤ v4 ∧ v4 < ((5 : Nat) : Int)) inferInstance (rB d k_Roofs_load n0 z0 Q 5 [(3, 86), (3, v1), (3, v2), (1, (mAdd v3 4)), (1, (mAdd v4 1))] [] (mmS h 90 v4 (mOr (mOr (mOr (mShl ((tFc v1 v3).getD (h v1 v3)) 24) (mShl ((tFc v1 (mAdd v3 1)).getD (h v1 (mAdd v3 1))) 16)) (mShl ((tFc v1 (mAdd v3 2)).getD (h v1 (mAdd v3 2))) 8)) ((tFc v1 (mAdd v3 3)).getD (h v1 (mAdd v3 3))))))))))))))))) : rB d k_Roofs_load n0 z0 Q 5 [(3, 86), (3, v1), (3, v2), (1, v3), (1, v4)] [] h :=
  rB_fold (cut := fun i => Nat.beq i 1 || Nat.beq i 3 || Nat.beq i 5) (f := 40) hy
set_option maxRecDepth 100000 in
theorem T_m_feed_0 (d : Nat) (n0 z0 : Int) (Q : Int → mmH → Prop) (h : mmH) (a1 : Int) (a2 : Int) (a3 : Int) (a4 : Int) (a5 : Int) (hy : ((mAdd (h 282 1) 20) ≤ 1600 → rB d k_m_feed n0 z0 Q 2 [(3, 282), (1, a1), (1, a2), (1, a3), (1, a4), (1, a5), (1, 0), (0, 0)] [] h) ∧ (¬ ((mAdd (h 282 1) 20) ≤ 1600) → Q (-1) h)) : rB d k_m_feed n0 z0 Q 0 [(3, 282), (1, a1), (1, a2), (1, a3), (1, a4), (1, a5), (0, 0), (0, 0)] [] h :=
  rB_fold (cut := fun i => Nat.beq i 2 || Nat.beq i 7) (f := 40) hy
set_option maxRecDepth 100000 in
theorem T_m_feed_2 (d : Nat) (n0 z0 : Int) (Q : Int → mmH → Prop) (h : mmH) (v1 : Int) (v2 : Int) (v3 : Int) (v4 : Int) (v5 : Int) (v6 : Int) (w7 : mmV) (hy : (20 ≤ v6 → Q (h 282 1) h) ∧ (¬ (20 ≤ v6) → (4 ≤ v6 → (8 ≤ v6 → (12 ≤ v6 → (16 ≤ v6 → rB d k_m_feed n0 z0 Q 7 [(3, 282), (1, v1), (1, v2), (1, v3), (1, v4), (1, v5), (1, v6), w7] [(1, v5)] h) ∧ (¬ (16 ≤ v6) → rB d k_m_feed n0 z0 Q 7 [(3, 282), (1, v1), (1, v2), (1, v3), (1, v4), (1, v5), (1, v6), w7] [(1, v4)] h)) ∧ (¬ (12 ≤ v6) → rB d k_m_feed n0 z0 Q 7 [(3, 282), (1, v1), (1, v2), (1, v3), (1, v4), (1, v5), (1, v6), w7] [(1, v3)] h)) ∧ (¬ (8 ≤ v6) → rB d k_m_feed n0 z0 Q 7 [(3, 282), (1, v1), (1, v2), (1, v3), (1, v4), (1, v5), (1, v6), w7] [(1, v2)] h)) ∧ (¬ (4 ≤ v6) → rB d k_m_feed n0 z0 Q 7 [(3, 282), (1, v1), (1, v2), (1, v3), (1, v4), (1, v5), (1, v6), w7] [(1, v1)] h))) : rB d k_m_feed n0 z0 Q 2 [(3, 282), (1, v1), (1, v2), (1, v3), (1, v4), (1, v5), (1, v6), w7] [] h :=
  rB_fold (cut := fun i => Nat.beq i 2 || Nat.beq i 7) (f := 40) hy
set_option maxRecDepth 100000 in
theorem T_m_feed_7 (d : Nat) (n0 z0 : Int) (Q : Int → mmH → Prop) (h : mmH) (v1 : Int) (v2 : Int) (v3 : Int) (v4 : Int) (v5 : Int) (v6 : Int) (w7 : mmV) (s0 : Int) (hy : mmD ((0 : Int) ≤ (h 282 1) ∧ (h 282 1) < ((1600 : Nat) : Int)) inferInstance (rB d k_m_feed n0 z0 Q 2 [(3, 282), (1, v1), (1, v2), (1, v3), (1, v4), (1, v5), (1, (mAdd v6 1)), (1, s0)] [] (mmS (mmS h 283 (h 282 1) (mAnd (mShr s0 (mMul 8 (mSub 3 (mRem v6 4)))) 255)) 282 1 (mAdd (h 282 1) 1)))) : rB d k_m_feed n0 z0 Q 7 [(3, 282), (1, v1), (1, v2), (1, v3), (1, v4), (1, v5), (1, v6), w7] [(1, s0)] h :=
  rB_fold (cut := fun i => Nat.beq i 2 || Nat.beq i 7) (f := 40) hy
set_option maxRecDepth 100000 in
theorem T_m_end_0 (d : Nat) (n0 z0 : Int) (Q : Int → mmH → Prop) (h : mmH) (a1 : Int) (hy : (a1 < 0 → Q 0 h) ∧ (¬ (a1 < 0) → (a1 ≤ (h 282 1) → Q 1 (mmS h 282 1 a1)) ∧ (¬ (a1 ≤ (h 282 1)) → Q 0 h))) : rB d k_m_end n0 z0 Q 0 [(3, 282), (1, a1)] [] h :=
  rB_fold (cut := fun i => false) (f := 40) hy
set_option maxRecDepth 100000 in
theorem T_m_town_0 (d : Nat) (n0 z0 : Int) (Q : Int → mmH → Prop) (h : mmH)  (hy : rD d k_m_town n0 z0 Q (fun i => Nat.beq i 1 || Nat.beq i 2 || Nat.beq i 3) 0 19 [(3, 282), (0, 0)] [] (mmS (mmS (mmS (mmS (mmS (mmS h 282 3 (h 282 1)) 282 1 0) 282 2 0) 282 4 (-1)) 282 5 0) 282 6 (-1))) : rB d k_m_town n0 z0 Q 0 [(3, 282), (0, 0)] [] h :=
  rB_fold (cut := fun i => Nat.beq i 1 || Nat.beq i 2 || Nat.beq i 3) (f := 40) hy
set_option maxRecDepth 100000 in
theorem T_m_town_0_19 (d : Nat) (n0 z0 : Int) (Q : Int → mmH → Prop) (h : mmH)  (hy : rB d k_m_town n0 z0 Q 1 [(3, 282), (1, 0)] [] (mmS (mmS (mmS (mmS h 282 48 0) 282 50 0) 318 0 5) 319 0 0)) : rD d k_m_town n0 z0 Q (fun i => Nat.beq i 1 || Nat.beq i 2 || Nat.beq i 3) 0 19 [(3, 282), (0, 0)] [] h := hy
set_option maxRecDepth 100000 in
theorem T_m_town_1 (d : Nat) (n0 z0 : Int) (Q : Int → mmH → Prop) (h : mmH) (v1 : Int) (hy : (5 ≤ v1 → rB d k_m_town n0 z0 Q 2 [(3, 282), (1, v1)] [] h) ∧ (¬ (5 ≤ v1) → mmD ((0 : Int) ≤ v1 ∧ v1 < ((10 : Nat) : Int)) inferInstance (rB d k_m_town n0 z0 Q 1 [(3, 282), (1, (mAdd v1 1))] [] (mmS h 313 v1 0)))) : rB d k_m_town n0 z0 Q 1 [(3, 282), (1, v1)] [] h :=
  rB_fold (cut := fun i => Nat.beq i 1 || Nat.beq i 2 || Nat.beq i 3) (f := 40) hy
set_option maxRecDepth 100000 in
theorem T_m_town_2 (d : Nat) (n0 z0 : Int) (Q : Int → mmH → Prop) (h : mmH) (v1 : Int) (hy : ((h 282 5) ≠ 0 → rB d k_m_town n0 z0 Q 3 [(3, 282), (1, v1)] [] h) ∧ (¬ ((h 282 5) ≠ 0) → rC d k_m_look [282] h (fun x1 h1 => (x1 = (-1) → rB d k_m_town n0 z0 Q 3 [(3, 282), (1, v1)] [] h1) ∧ (¬ (x1 = (-1)) → rC d k_m_statementTold [282] h1 (fun x2 h2 => rB d k_m_town n0 z0 Q 2 [(3, 282), (1, v1)] [] h2))))) : rB d k_m_town n0 z0 Q 2 [(3, 282), (1, v1)] [] h :=
  rB_fold (cut := fun i => Nat.beq i 1 || Nat.beq i 2 || Nat.beq i 3) (f := 40) hy
set_option maxRecDepth 100000 in
theorem T_m_town_3 (d : Nat) (n0 z0 : Int) (Q : Int → mmH → Prop) (h : mmH) (v1 : Int) (hy : ((h 282 5) = 0 → rC d k_m_stands [282] (mmS (mmS h 282 7 (h 282 5)) 282 8 (h 282 6)) (fun x1 h1 => Q (h1 282 48) h1)) ∧ (¬ ((h 282 5) = 0) → Q (-1) (mmS (mmS h 282 7 (h 282 5)) 282 8 (h 282 6)))) : rB d k_m_town n0 z0 Q 3 [(3, 282), (1, v1)] [] h :=
  rB_fold (cut := fun i => Nat.beq i 1 || Nat.beq i 2 || Nat.beq i 3) (f := 40) hy
set_option maxRecDepth 100000 in
theorem T_m_look_0 (d : Nat) (n0 z0 : Int) (Q : Int → mmH → Prop) (h : mmH)  (hy : ((h 282 3) ≤ (h 282 2) → rB d k_m_look n0 z0 Q 2 [(3, 282)] [] h) ∧ (¬ ((h 282 3) ≤ (h 282 2)) → mmD ((0 : Int) ≤ (h 282 2) ∧ (h 282 2) < ((1600 : Nat) : Int)) inferInstance (((h 283 (h 282 2)) = 10 → rB d k_m_look n0 z0 Q 0 [(3, 282)] [] (mmS h 282 2 (mAdd (h 282 2) 1))) ∧ (¬ ((h 283 (h 282 2)) = 10) → mmD ((0 : Int) ≤ (h 282 2) ∧ (h 282 2) < ((1600 : Nat) : Int)) inferInstance (((h 283 (h 282 2)) ≠ 32 → rB d k_m_look n0 z0 Q 2 [(3, 282)] [] h) ∧ (¬ ((h 283 (h 282 2)) ≠ 32) → rB d k_m_look n0 z0 Q 0 [(3, 282)] [] (mmS h 282 2 (mAdd (h 282 2) 1)))))))) : rB d k_m_look n0 z0 Q 0 [(3, 282)] [] h :=
  rB_fold (cut := fun i => Nat.beq i 0 || Nat.beq i 2) (f := 40) hy
set_option maxRecDepth 100000 in
theorem T_m_look_2 (d : Nat) (n0 z0 : Int) (Q : Int → mmH → Prop) (h : mmH)  (hy : ((h 282 3) ≤ (h 282 2) → Q (-1) h) ∧ (¬ ((h 282 3) ≤ (h 282 2)) → mmD ((0 : Int) ≤ (h 282 2) ∧ (h 282 2) < ((1600 : Nat) : Int)) inferInstance (Q (h 283 (h 282 2)) h))) : rB d k_m_look n0 z0 Q 2 [(3, 282)] [] h :=
  rB_fold (cut := fun i => Nat.beq i 0 || Nat.beq i 2) (f := 40) hy
set_option maxRecDepth 100000 in
theorem T_m_statementTold_0 (d : Nat) (n0 z0 : Int) (Q : Int → mmH → Prop) (h : mmH)  (hy : ((h 282 48) ≠ 80 → rC d k_m_takes [282, 284] h (fun x1 h1 => (x1 = 0 → rC d k_m_takes [282, 285] h1 (fun x2 h2 => (x2 = 0 → rC d k_m_takes [282, 289] h2 (fun x3 h3 => (x3 = 0 → rC d k_m_takes [282, 291] h3 (fun x4 h4 => (x4 = 0 → rC d k_m_takes [282, 292] h4 (fun x5 h5 => (x5 = 0 → rC d k_m_takes [282, 294] h5 (fun x6 h6 => (x6 = 0 → rC d k_m_takes [282, 301] h6 (fun x7 h7 => (x7 = 0 → rC d k_m_takes [282, 302] h7 (fun x8 h8 => (x8 = 0 → rC d k_m_takes [282, 304] h8 (fun x9 h9 => (x9 = 0 → rC d k_m_asks [282, 305] h9 (fun x10 h10 => rC d k_m_number [282, 0, 100] h10 (fun x11 h11 => rC d k_m_asksSign [282, 59] (mmS h11 319 0 x11) (fun x12 h12 => Q 0 (mmS h12 282 48 (mAdd (h12 282 48) 1)))))) ∧ (¬ (x9 = 0) → rC d k_m_number [282, 1, 20] h9 (fun x13 h13 => rC d k_m_asksSign [282, 59] (mmS h13 318 0 x13) (fun x14 h14 => Q 0 (mmS h14 282 48 (mAdd (h14 282 48) 1))))))) ∧ (¬ (x8 = 0) → rC d k_m_lawTold [282, (h 282 2), 1] h8 (fun x15 h15 => rC d k_m_asksSign [282, 59] h15 (fun x16 h16 => Q 0 (mmS h16 282 48 (mAdd (h16 282 48) 1))))))) ∧ (¬ (x7 = 0) → rC d k_m_lawTold [282, (h 282 2), 0] h7 (fun x17 h17 => rC d k_m_asksSign [282, 59] h17 (fun x18 h18 => Q 0 (mmS h18 282 48 (mAdd (h18 282 48) 1))))))) ∧ (¬ (x6 = 0) → rC d k_m_personTold [282, (h 282 2)] h6 (fun x19 h19 => rC d k_m_asksSign [282, 59] h19 (fun x20 h20 => Q 0 (mmS h20 282 48 (mAdd (h20 282 48) 1))))))) ∧ (¬ (x5 = 0) → rC d k_m_gapTold [282, (h 282 2)] h5 (fun x21 h21 => rC d k_m_asksSign [282, 59] h21 (fun x22 h22 => Q 0 (mmS h22 282 48 (mAdd (h22 282 48) 1))))))) ∧ (¬ (x4 = 0) → rC d k_m_storkTold [282] h4 (fun x23 h23 => rC d k_m_asksSign [282, 59] h23 (fun x24 h24 => Q 0 (mmS h24 282 48 (mAdd (h24 282 48) 1))))))) ∧ (¬ (x3 = 0) → rC d k_m_innTold [282] h3 (fun x25 h25 => rC d k_m_asksSign [282, 59] h25 (fun x26 h26 => Q 0 (mmS h26 282 48 (mAdd (h26 282 48) 1))))))) ∧ (¬ (x2 = 0) → rC d k_m_lotTold [282, (h 282 2)] h2 (fun x27 h27 => rC d k_m_asksSign [282, 59] h27 (fun x28 h28 => Q 0 (mmS h28 282 48 (mAdd (h28 282 48) 1))))))) ∧ (¬ (x1 = 0) → rC d k_m_ownerTold [282, (h 282 2)] h1 (fun x29 h29 => rC d k_m_asksSign [282, 59] h29 (fun x30 h30 => Q 0 (mmS h30 282 48 (mAdd (h30 282 48) 1))))))) ∧ (¬ ((h 282 48) ≠ 80) → rC d k_m_fail [282, 5, (h 282 2)] h (fun x31 h31 => Q 0 h31))) : rB d k_m_statementTold n0 z0 Q 0 [(3, 282), (0, 0)] [] h :=
  rB_fold (cut := fun i => false) (f := 40) hy
set_option maxRecDepth 100000 in
theorem T_m_fail_0 (d : Nat) (n0 z0 : Int) (Q : Int → mmH → Prop) (h : mmH) (a1 : Int) (a2 : Int) (hy : ((h 282 5) = 0 → Q 0 (mmS (mmS h 282 5 a1) 282 6 a2)) ∧ (¬ ((h 282 5) = 0) → Q 0 h)) : rB d k_m_fail n0 z0 Q 0 [(3, 282), (1, a1), (1, a2)] [] h :=
  rB_fold (cut := fun i => false) (f := 40) hy
set_option maxRecDepth 100000 in
theorem T_m_takes_0 (d : Nat) (n0 z0 : Int) (Q : Int → mmH → Prop) (h : mmH) (a1 : Int) (hy : rC d k_m_isHere [282, a1] h (fun x1 h1 => (x1 ≠ 0 → mmG (Nat.ble 100 (tSh a1).1) (Q 1 (mmS (mmS h1 282 2 (mAdd (h1 282 2) ((tSh a1).2 : Int))) 282 4 (mAdd (h1 282 2) ((tSh a1).2 : Int))))) ∧ (¬ (x1 ≠ 0) → Q 0 h1))) : rB d k_m_takes n0 z0 Q 0 [(3, 282), (3, a1)] [] h :=
  rB_fold (cut := fun i => false) (f := 40) hy
set_option maxRecDepth 100000 in
theorem T_m_isHere_0 (d : Nat) (n0 z0 : Int) (Q : Int → mmH → Prop) (h : mmH) (a1 : Int) (hy : ((h 282 5) ≠ 0 → Q 0 h) ∧ (¬ ((h 282 5) ≠ 0) → rC d k_m_look [282] h (fun x1 h1 => rC d k_m_isLetter [x1] h1 (fun x2 h2 => (x2 = 0 → Q 0 h2) ∧ (¬ (x2 = 0) → ((h2 282 2) ≠ (h2 282 4) → rB d k_m_isHere n0 z0 Q 3 [(3, 282), (3, a1), (1, (h2 282 2)), (0, 0)] [] h2) ∧ (¬ ((h2 282 2) ≠ (h2 282 4)) → Q 0 h2)))))) : rB d k_m_isHere n0 z0 Q 0 [(3, 282), (3, a1), (0, 0), (0, 0)] [] h :=
  rB_fold (cut := fun i => Nat.beq i 3 || Nat.beq i 6) (f := 40) hy
set_option maxRecDepth 100000 in
theorem T_m_isHere_3 (d : Nat) (n0 z0 : Int) (Q : Int → mmH → Prop) (h : mmH) (v1 : Int) (v2 : Int) (hy : ((h 282 3) ≤ v2 → mmG (Nat.ble 100 (tSh v1).1) (((mSub v2 (h 282 2)) = ((tSh v1).2 : Int) → rB d k_m_isHere n0 z0 Q 6 [(3, 282), (3, v1), (1, v2), (1, 0)] [] h) ∧ (¬ ((mSub v2 (h 282 2)) = ((tSh v1).2 : Int)) → Q 0 h))) ∧ (¬ ((h 282 3) ≤ v2) → mmD ((0 : Int) ≤ v2 ∧ v2 < ((1600 : Nat) : Int)) inferInstance (rC d k_m_isLetter [(h 283 v2)] h (fun x1 h1 => (x1 = 0 → mmG (Nat.ble 100 (tSh v1).1) (((mSub v2 (h1 282 2)) = ((tSh v1).2 : Int) → rB d k_m_isHere n0 z0 Q 6 [(3, 282), (3, v1), (1, v2), (1, 0)] [] h1) ∧ (¬ ((mSub v2 (h1 282 2)) = ((tSh v1).2 : Int)) → Q 0 h1))) ∧ (¬ (x1 = 0) → rB d k_m_isHere n0 z0 Q 3 [(3, 282), (3, v1), (1, (mAdd v2 1)), (0, 0)] [] h1))))) : rB d k_m_isHere n0 z0 Q 3 [(3, 282), (3, v1), (1, v2), (0, 0)] [] h :=
  rB_fold (cut := fun i => Nat.beq i 3 || Nat.beq i 6) (f := 40) hy
set_option maxRecDepth 100000 in
theorem T_m_isHere_6 (d : Nat) (n0 z0 : Int) (Q : Int → mmH → Prop) (h : mmH) (v1 : Int) (v2 : Int) (v3 : Int) (hy : mmG (Nat.ble 100 (tSh v1).1) ((((tSh v1).2 : Int) ≤ v3 → Q 1 h) ∧ (¬ (((tSh v1).2 : Int) ≤ v3) → mmD ((0 : Int) ≤ (mAdd (h 282 2) v3) ∧ (mAdd (h 282 2) v3) < ((1600 : Nat) : Int)) inferInstance (mmG (Nat.beq (tSh v1).1 102) (mmD ((0 : Int) ≤ v3 ∧ v3 < ((tSh v1).2 : Int)) inferInstance (((h 283 (mAdd (h 282 2) v3)) = ((tFc v1 v3).getD (h v1 v3)) → rB d k_m_isHere n0 z0 Q 6 [(3, 282), (3, v1), (1, v2), (1, (mAdd v3 1))] [] h) ∧ (¬ ((h 283 (mAdd (h 282 2) v3)) = ((tFc v1 v3).getD (h v1 v3))) → Q 0 h))))))) : rB d k_m_isHere n0 z0 Q 6 [(3, 282), (3, v1), (1, v2), (1, v3)] [] h :=
  rB_fold (cut := fun i => Nat.beq i 3 || Nat.beq i 6) (f := 40) hy
set_option maxRecDepth 100000 in
theorem T_m_isLetter_0 (d : Nat) (n0 z0 : Int) (Q : Int → mmH → Prop) (h : mmH) (a0 : Int) (hy : (a0 < 97 → Q 0 h) ∧ (¬ (a0 < 97) → (122 < a0 → Q 0 h) ∧ (¬ (122 < a0) → Q 1 h))) : rB d k_m_isLetter n0 z0 Q 0 [(1, a0)] [] h :=
  rB_fold (cut := fun i => false) (f := 40) hy
set_option maxRecDepth 100000 in
theorem T_m_ownerTold_0 (d : Nat) (n0 z0 : Int) (Q : Int → mmH → Prop) (h : mmH) (a1 : Int) (hy : rC d k_m_isFull [282, 0, 5, a1] h (fun x1 h1 => (x1 = 0 → rC d k_m_newName [282] h1 (fun x2 h2 => ((h2 282 5) = 0 → mmD ((0 : Int) ≤ (h2 313 0) ∧ (h2 313 0) < ((60 : Nat) : Int)) inferInstance (Q 0 (mmS (mmS h2 314 (h2 313 0) x2) 313 0 (mAdd (h2 313 0) 1)))) ∧ (¬ ((h2 282 5) = 0) → Q 0 h2))) ∧ (¬ (x1 = 0) → Q 0 h1))) : rB d k_m_ownerTold n0 z0 Q 0 [(3, 282), (1, a1), (0, 0), (0, 0)] [] h :=
  rB_fold (cut := fun i => false) (f := 40) hy
set_option maxRecDepth 100000 in
theorem T_m_isFull_0 (d : Nat) (n0 z0 : Int) (Q : Int → mmH → Prop) (h : mmH) (a1 : Int) (a2 : Int) (a3 : Int) (hy : ((h 282 5) ≠ 0 → ((h 282 5) = 0 → Q 0 h) ∧ (¬ ((h 282 5) = 0) → Q 1 h)) ∧ (¬ ((h 282 5) ≠ 0) → mmD ((0 : Int) ≤ a1 ∧ a1 < ((10 : Nat) : Int)) inferInstance (((h 313 a1) ≠ a2 → ((h 282 5) = 0 → Q 0 h) ∧ (¬ ((h 282 5) = 0) → Q 1 h)) ∧ (¬ ((h 313 a1) ≠ a2) → rC d k_m_fail [282, 5, a3] h (fun x1 h1 => ((h1 282 5) = 0 → Q 0 h1) ∧ (¬ ((h1 282 5) = 0) → Q 1 h1)))))) : rB d k_m_isFull n0 z0 Q 0 [(3, 282), (1, a1), (1, a2), (1, a3)] [] h :=
  rB_fold (cut := fun i => false) (f := 40) hy
set_option maxRecDepth 100000 in
theorem T_m_newName_0 (d : Nat) (n0 z0 : Int) (Q : Int → mmH → Prop) (h : mmH)  (hy : rC d k_m_name [282] h (fun x1 h1 => rB d k_m_newName n0 z0 Q 1 [(3, 282), (2, x1), (0, 0), (1, 0)] [] h1)) : rB d k_m_newName n0 z0 Q 0 [(3, 282), (0, 0), (0, 0), (0, 0)] [] h :=
  rB_fold (cut := fun i => Nat.beq i 1) (f := 40) hy
set_option maxRecDepth 100000 in
theorem T_m_newName_1 (d : Nat) (n0 z0 : Int) (Q : Int → mmH → Prop) (h : mmH) (v1 : Int) (v3 : Int) (hy : (3 ≤ v3 → Q v1 h) ∧ (¬ (3 ≤ v3) → ((h 282 5) ≠ 0 → rB d k_m_newName n0 z0 Q 1 [(3, 282), (2, v1), (0, 0), (1, (mAdd v3 1))] [] h) ∧ (¬ ((h 282 5) ≠ 0) → rC d k_m_nameOf [282, v3, v1] h (fun x1 h1 => (x1 = (-1) → rB d k_m_newName n0 z0 Q 1 [(3, 282), (2, v1), (0, 0), (1, (mAdd v3 1))] [] h1) ∧ (¬ (x1 = (-1)) → rC d k_m_fail [282, 3, (h1 282 38)] h1 (fun x2 h2 => rB d k_m_newName n0 z0 Q 1 [(3, 282), (2, v1), (0, 0), (1, (mAdd v3 1))] [] h2)))))) : rB d k_m_newName n0 z0 Q 1 [(3, 282), (2, v1), (0, 0), (1, v3)] [] h :=
  rB_fold (cut := fun i => Nat.beq i 1) (f := 40) hy
set_option maxRecDepth 100000 in
theorem T_m_name_0 (d : Nat) (n0 z0 : Int) (Q : Int → mmH → Prop) (h : mmH)  (hy : ((h 282 5) = 0 → rC d k_m_look [282] h (fun x1 h1 => rC d k_m_isLetter [x1] h1 (fun x2 h2 => (x2 = 0 → rC d k_m_fail [282, 1, (h2 282 2)] h2 (fun x3 h3 => Q 0 h3)) ∧ (¬ (x2 = 0) → ((h2 282 2) = (h2 282 4) → rC d k_m_fail [282, 1, (h2 282 2)] h2 (fun x4 h4 => Q 0 h4)) ∧ (¬ ((h2 282 2) = (h2 282 4)) → rC d k_m_isOwnHere [282] h2 (fun x5 h5 => (x5 = 0 → rB d k_m_name n0 z0 Q 4 [(3, 282), (2, 0), (0, 0)] [] (mmS h5 282 38 (h5 282 2))) ∧ (¬ (x5 = 0) → rC d k_m_fail [282, 1, (h5 282 2)] h5 (fun x6 h6 => Q 0 h6)))))))) ∧ (¬ ((h 282 5) = 0) → Q 0 h)) : rB d k_m_name n0 z0 Q 0 [(3, 282), (0, 0), (0, 0)] [] h :=
  rB_fold (cut := fun i => Nat.beq i 4) (f := 40) hy
set_option maxRecDepth 100000 in
theorem T_m_name_4 (d : Nat) (n0 z0 : Int) (Q : Int → mmH → Prop) (h : mmH) (v1 : Int) (hy : ((h 282 3) ≤ (h 282 2) → Q v1 (mmS h 282 4 (h 282 2))) ∧ (¬ ((h 282 3) ≤ (h 282 2)) → mmD ((0 : Int) ≤ (h 282 2) ∧ (h 282 2) < ((1600 : Nat) : Int)) inferInstance (rC d k_m_isLetter [(h 283 (h 282 2))] h (fun x1 h1 => (x1 = 0 → Q v1 (mmS h1 282 4 (h1 282 2))) ∧ (¬ (x1 = 0) → ((mSub (h1 282 2) (h1 282 38)) ≠ 6 → mmD ((0 : Int) ≤ (h1 282 2) ∧ (h1 282 2) < ((1600 : Nat) : Int)) inferInstance (rB d k_m_name n0 z0 Q 4 [(3, 282), (2, (nAdd (nSub (nAdd (nMul 27 v1) (h1 283 (h1 282 2))) 97) 1)), (0, 0)] [] (mmS h1 282 2 (mAdd (h1 282 2) 1)))) ∧ (¬ ((mSub (h1 282 2) (h1 282 38)) ≠ 6) → rC d k_m_fail [282, 1, (h1 282 2)] h1 (fun x2 h2 => Q 0 h2))))))) : rB d k_m_name n0 z0 Q 4 [(3, 282), (2, v1), (0, 0)] [] h :=
  rB_fold (cut := fun i => Nat.beq i 4) (f := 40) hy
set_option maxRecDepth 100000 in
theorem T_m_isOwnHere_0 (d : Nat) (n0 z0 : Int) (Q : Int → mmH → Prop) (h : mmH)  (hy : rC d k_m_isHere [282, 284] h (fun x1 h1 => (x1 ≠ 0 → rB d k_m_isOwnHere n0 z0 Q 3 [(3, 282), (0, 0)] [(1, 1)] h1) ∧ (¬ (x1 ≠ 0) → rC d k_m_isHere [282, 285] h1 (fun x2 h2 => (x2 ≠ 0 → rB d k_m_isOwnHere n0 z0 Q 3 [(3, 282), (0, 0)] [(1, 1)] h2) ∧ (¬ (x2 ≠ 0) → rC d k_m_isHere [282, 286] h2 (fun x3 h3 => (x3 ≠ 0 → rB d k_m_isOwnHere n0 z0 Q 3 [(3, 282), (0, 0)] [(1, 1)] h3) ∧ (¬ (x3 ≠ 0) → rC d k_m_isHere [282, 287] h3 (fun x4 h4 => rD d k_m_isOwnHere n0 z0 Q (fun i => Nat.beq i 3 || Nat.beq i 6 || Nat.beq i 9 || Nat.beq i 12) 0 19 [(3, 282), (0, 0)] [(1, x4)] h4)))))))) : rB d k_m_isOwnHere n0 z0 Q 0 [(3, 282), (0, 0)] [] h :=
  rB_fold (cut := fun i => Nat.beq i 3 || Nat.beq i 6 || Nat.beq i 9 || Nat.beq i 12) (f := 40) hy
set_option maxRecDepth 100000 in
theorem T_m_isOwnHere_0_19 (d : Nat) (n0 z0 : Int) (Q : Int → mmH → Prop) (h : mmH) (s0 : Int) (hy : (s0 ≠ 0 → rB d k_m_isOwnHere n0 z0 Q 3 [(3, 282), (0, 0)] [(1, 1)] h) ∧ (¬ (s0 ≠ 0) → rC d k_m_isHere [282, 288] h (fun x1 h1 => (x1 ≠ 0 → rB d k_m_isOwnHere n0 z0 Q 3 [(3, 282), (0, 0)] [(1, 1)] h1) ∧ (¬ (x1 ≠ 0) → rC d k_m_isHere [282, 289] h1 (fun x2 h2 => (x2 = 0 → rB d k_m_isOwnHere n0 z0 Q 3 [(3, 282), (0, 0)] [(1, 0)] h2) ∧ (¬ (x2 = 0) → rB d k_m_isOwnHere n0 z0 Q 3 [(3, 282), (0, 0)] [(1, 1)] h2)))))) : rD d k_m_isOwnHere n0 z0 Q (fun i => Nat.beq i 3 || Nat.beq i 6 || Nat.beq i 9 || Nat.beq i 12) 0 19 [(3, 282), (0, 0)] [(1, s0)] h := hy
set_option maxRecDepth 100000 in
theorem T_m_isOwnHere_3 (d : Nat) (n0 z0 : Int) (Q : Int → mmH → Prop) (h : mmH) (s0 : Int) (hy : (s0 ≠ 0 → rB d k_m_isOwnHere n0 z0 Q 6 [(3, 282), (1, s0)] [(1, 1)] h) ∧ (¬ (s0 ≠ 0) → rC d k_m_isHere [282, 290] h (fun x1 h1 => (x1 ≠ 0 → rB d k_m_isOwnHere n0 z0 Q 6 [(3, 282), (1, s0)] [(1, 1)] h1) ∧ (¬ (x1 ≠ 0) → rC d k_m_isHere [282, 291] h1 (fun x2 h2 => (x2 ≠ 0 → rB d k_m_isOwnHere n0 z0 Q 6 [(3, 282), (1, s0)] [(1, 1)] h2) ∧ (¬ (x2 ≠ 0) → rC d k_m_isHere [282, 292] h2 (fun x3 h3 => (x3 ≠ 0 → rB d k_m_isOwnHere n0 z0 Q 6 [(3, 282), (1, s0)] [(1, 1)] h3) ∧ (¬ (x3 ≠ 0) → rC d k_m_isHere [282, 293] h3 (fun x4 h4 => rD d k_m_isOwnHere n0 z0 Q (fun i => Nat.beq i 3 || Nat.beq i 6 || Nat.beq i 9 || Nat.beq i 12) 3 22 [(3, 282), (1, s0)] [(1, x4)] h4))))))))) : rB d k_m_isOwnHere n0 z0 Q 3 [(3, 282), (0, 0)] [(1, s0)] h :=
  rB_fold (cut := fun i => Nat.beq i 3 || Nat.beq i 6 || Nat.beq i 9 || Nat.beq i 12) (f := 40) hy
set_option maxRecDepth 100000 in
theorem T_m_isOwnHere_3_22 (d : Nat) (n0 z0 : Int) (Q : Int → mmH → Prop) (h : mmH) (v1 : Int) (s0 : Int) (hy : (s0 ≠ 0 → rB d k_m_isOwnHere n0 z0 Q 6 [(3, 282), (1, v1)] [(1, 1)] h) ∧ (¬ (s0 ≠ 0) → rC d k_m_isHere [282, 294] h (fun x1 h1 => (x1 ≠ 0 → rB d k_m_isOwnHere n0 z0 Q 6 [(3, 282), (1, v1)] [(1, 1)] h1) ∧ (¬ (x1 ≠ 0) → rC d k_m_isHere [282, 295] h1 (fun x2 h2 => (x2 = 0 → rB d k_m_isOwnHere n0 z0 Q 6 [(3, 282), (1, v1)] [(1, 0)] h2) ∧ (¬ (x2 = 0) → rB d k_m_isOwnHere n0 z0 Q 6 [(3, 282), (1, v1)] [(1, 1)] h2)))))) : rD d k_m_isOwnHere n0 z0 Q (fun i => Nat.beq i 3 || Nat.beq i 6 || Nat.beq i 9 || Nat.beq i 12) 3 22 [(3, 282), (1, v1)] [(1, s0)] h := hy
set_option maxRecDepth 100000 in
theorem T_m_isOwnHere_6 (d : Nat) (n0 z0 : Int) (Q : Int → mmH → Prop) (h : mmH) (v1 : Int) (s0 : Int) (hy : (s0 ≠ 0 → rB d k_m_isOwnHere n0 z0 Q 9 [(3, 282), (1, s0)] [(1, 1)] h) ∧ (¬ (s0 ≠ 0) → rC d k_m_isHere [282, 296] h (fun x1 h1 => (x1 ≠ 0 → rB d k_m_isOwnHere n0 z0 Q 9 [(3, 282), (1, s0)] [(1, 1)] h1) ∧ (¬ (x1 ≠ 0) → rC d k_m_isHere [282, 297] h1 (fun x2 h2 => (x2 ≠ 0 → rB d k_m_isOwnHere n0 z0 Q 9 [(3, 282), (1, s0)] [(1, 1)] h2) ∧ (¬ (x2 ≠ 0) → rC d k_m_isHere [282, 298] h2 (fun x3 h3 => (x3 ≠ 0 → rB d k_m_isOwnHere n0 z0 Q 9 [(3, 282), (1, s0)] [(1, 1)] h3) ∧ (¬ (x3 ≠ 0) → rC d k_m_isHere [282, 299] h3 (fun x4 h4 => rD d k_m_isOwnHere n0 z0 Q (fun i => Nat.beq i 3 || Nat.beq i 6 || Nat.beq i 9 || Nat.beq i 12) 6 22 [(3, 282), (1, s0)] [(1, x4)] h4))))))))) : rB d k_m_isOwnHere n0 z0 Q 6 [(3, 282), (1, v1)] [(1, s0)] h :=
  rB_fold (cut := fun i => Nat.beq i 3 || Nat.beq i 6 || Nat.beq i 9 || Nat.beq i 12) (f := 40) hy
set_option maxRecDepth 100000 in
theorem T_m_isOwnHere_6_22 (d : Nat) (n0 z0 : Int) (Q : Int → mmH → Prop) (h : mmH) (v1 : Int) (s0 : Int) (hy : (s0 ≠ 0 → rB d k_m_isOwnHere n0 z0 Q 9 [(3, 282), (1, v1)] [(1, 1)] h) ∧ (¬ (s0 ≠ 0) → rC d k_m_isHere [282, 300] h (fun x1 h1 => (x1 ≠ 0 → rB d k_m_isOwnHere n0 z0 Q 9 [(3, 282), (1, v1)] [(1, 1)] h1) ∧ (¬ (x1 ≠ 0) → rC d k_m_isHere [282, 301] h1 (fun x2 h2 => (x2 = 0 → rB d k_m_isOwnHere n0 z0 Q 9 [(3, 282), (1, v1)] [(1, 0)] h2) ∧ (¬ (x2 = 0) → rB d k_m_isOwnHere n0 z0 Q 9 [(3, 282), (1, v1)] [(1, 1)] h2)))))) : rD d k_m_isOwnHere n0 z0 Q (fun i => Nat.beq i 3 || Nat.beq i 6 || Nat.beq i 9 || Nat.beq i 12) 6 22 [(3, 282), (1, v1)] [(1, s0)] h := hy
set_option maxRecDepth 100000 in
theorem T_m_isOwnHere_9 (d : Nat) (n0 z0 : Int) (Q : Int → mmH → Prop) (h : mmH) (v1 : Int) (s0 : Int) (hy : (s0 ≠ 0 → rB d k_m_isOwnHere n0 z0 Q 12 [(3, 282), (1, s0)] [(1, 1)] h) ∧ (¬ (s0 ≠ 0) → rC d k_m_isHere [282, 302] h (fun x1 h1 => (x1 ≠ 0 → rB d k_m_isOwnHere n0 z0 Q 12 [(3, 282), (1, s0)] [(1, 1)] h1) ∧ (¬ (x1 ≠ 0) → rC d k_m_isHere [282, 303] h1 (fun x2 h2 => (x2 ≠ 0 → rB d k_m_isOwnHere n0 z0 Q 12 [(3, 282), (1, s0)] [(1, 1)] h2) ∧ (¬ (x2 ≠ 0) → rC d k_m_isHere [282, 304] h2 (fun x3 h3 => (x3 ≠ 0 → rB d k_m_isOwnHere n0 z0 Q 12 [(3, 282), (1, s0)] [(1, 1)] h3) ∧ (¬ (x3 ≠ 0) → rC d k_m_isHere [282, 305] h3 (fun x4 h4 => rD d k_m_isOwnHere n0 z0 Q (fun i => Nat.beq i 3 || Nat.beq i 6 || Nat.beq i 9 || Nat.beq i 12) 9 22 [(3, 282), (1, s0)] [(1, x4)] h4))))))))) : rB d k_m_isOwnHere n0 z0 Q 9 [(3, 282), (1, v1)] [(1, s0)] h :=
  rB_fold (cut := fun i => Nat.beq i 3 || Nat.beq i 6 || Nat.beq i 9 || Nat.beq i 12) (f := 40) hy
set_option maxRecDepth 100000 in
theorem T_m_isOwnHere_9_22 (d : Nat) (n0 z0 : Int) (Q : Int → mmH → Prop) (h : mmH) (v1 : Int) (s0 : Int) (hy : (s0 ≠ 0 → rB d k_m_isOwnHere n0 z0 Q 12 [(3, 282), (1, v1)] [(1, 1)] h) ∧ (¬ (s0 ≠ 0) → rC d k_m_isHere [282, 306] h (fun x1 h1 => (x1 ≠ 0 → rB d k_m_isOwnHere n0 z0 Q 12 [(3, 282), (1, v1)] [(1, 1)] h1) ∧ (¬ (x1 ≠ 0) → rC d k_m_isHere [282, 307] h1 (fun x2 h2 => (x2 = 0 → rB d k_m_isOwnHere n0 z0 Q 12 [(3, 282), (1, v1)] [(1, 0)] h2) ∧ (¬ (x2 = 0) → rB d k_m_isOwnHere n0 z0 Q 12 [(3, 282), (1, v1)] [(1, 1)] h2)))))) : rD d k_m_isOwnHere n0 z0 Q (fun i => Nat.beq i 3 || Nat.beq i 6 || Nat.beq i 9 || Nat.beq i 12) 9 22 [(3, 282), (1, v1)] [(1, s0)] h := hy
set_option maxRecDepth 100000 in
theorem T_m_isOwnHere_12 (d : Nat) (n0 z0 : Int) (Q : Int → mmH → Prop) (h : mmH) (v1 : Int) (s0 : Int) (hy : (s0 ≠ 0 → Q 1 h) ∧ (¬ (s0 ≠ 0) → rC d k_m_isHere [282, 308] h (fun x1 h1 => (x1 ≠ 0 → Q 1 h1) ∧ (¬ (x1 ≠ 0) → rC d k_m_isHere [282, 309] h1 (fun x2 h2 => (x2 ≠ 0 → Q 1 h2) ∧ (¬ (x2 ≠ 0) → rC d k_m_isHere [282, 310] h2 (fun x3 h3 => (x3 ≠ 0 → Q 1 h3) ∧ (¬ (x3 ≠ 0) → rC d k_m_isHere [282, 311] h3 (fun x4 h4 => (x4 ≠ 0 → Q 1 h4) ∧ (¬ (x4 ≠ 0) → rC d k_m_isHere [282, 312] h4 (fun x5 h5 => (x5 = 0 → Q 0 h5) ∧ (¬ (x5 = 0) → Q 1 h5)))))))))))) : rB d k_m_isOwnHere n0 z0 Q 12 [(3, 282), (1, v1)] [(1, s0)] h :=
  rB_fold (cut := fun i => Nat.beq i 3 || Nat.beq i 6 || Nat.beq i 9 || Nat.beq i 12) (f := 40) hy
set_option maxRecDepth 100000 in
theorem T_m_nameOf_0 (d : Nat) (n0 z0 : Int) (Q : Int → mmH → Prop) (h : mmH) (a1 : Int) (a2 : Int) (hy : rB d k_m_nameOf n0 z0 Q 1 [(3, 282), (1, a1), (2, a2), (0, 0), (1, 0)] [] h) : rB d k_m_nameOf n0 z0 Q 0 [(3, 282), (1, a1), (2, a2), (0, 0), (0, 0)] [] h :=
  rB_fold (cut := fun i => Nat.beq i 1) (f := 40) hy
set_option maxRecDepth 100000 in
theorem T_m_nameOf_1 (d : Nat) (n0 z0 : Int) (Q : Int → mmH → Prop) (h : mmH) (v1 : Int) (v2 : Int) (v4 : Int) (hy : mmD ((0 : Int) ≤ v1 ∧ v1 < ((10 : Nat) : Int)) inferInstance (((h 313 v1) ≤ v4 → Q (-1) h) ∧ (¬ ((h 313 v1) ≤ v4) → mmD ((0 : Int) ≤ (mAdd (mMul 10 v1) v4) ∧ (mAdd (mMul 10 v1) v4) < ((60 : Nat) : Int)) inferInstance (((mLcmp (h 314 (mAdd (mMul 10 v1) v4)) v2) ≠ 0 → rB d k_m_nameOf n0 z0 Q 1 [(3, 282), (1, v1), (2, v2), (0, 0), (1, (mAdd v4 1))] [] h) ∧ (¬ ((mLcmp (h 314 (mAdd (mMul 10 v1) v4)) v2) ≠ 0) → Q v4 h))))) : rB d k_m_nameOf n0 z0 Q 1 [(3, 282), (1, v1), (2, v2), (0, 0), (1, v4)] [] h :=
  rB_fold (cut := fun i => Nat.beq i 1) (f := 40) hy
set_option maxRecDepth 100000 in
theorem T_m_lotTold_0 (d : Nat) (n0 z0 : Int) (Q : Int → mmH → Prop) (h : mmH) (a1 : Int) (hy : rC d k_m_isFull [282, 1, 10, a1] h (fun x1 h1 => (x1 = 0 → rC d k_m_newName [282] h1 (fun x2 h2 => rC d k_m_asks [282, 286] h2 (fun x3 h3 => rC d k_m_oneOf [282, 0] h3 (fun x4 h4 => rC d k_m_asks [282, 287] h4 (fun x5 h5 => rC d k_m_number [282, 0, 20] h5 (fun x6 h6 => rC d k_m_asks [282, 288] h6 (fun x7 h7 => rC d k_m_number [282, 0, 30] h7 (fun x8 h8 => ((h8 282 5) = 0 → mmD ((0 : Int) ≤ (mAdd 10 (h1 313 1)) ∧ (mAdd 10 (h1 313 1)) < ((60 : Nat) : Int)) inferInstance (mmD ((0 : Int) ≤ (mMul 5 (h1 313 1)) ∧ (mMul 5 (h1 313 1)) < ((100 : Nat) : Int)) inferInstance (mmD ((0 : Int) ≤ (mAdd (mMul 5 (h1 313 1)) 1) ∧ (mAdd (mMul 5 (h1 313 1)) 1) < ((100 : Nat) : Int)) inferInstance (mmD ((0 : Int) ≤ (mAdd (mMul 5 (h1 313 1)) 2) ∧ (mAdd (mMul 5 (h1 313 1)) 2) < ((100 : Nat) : Int)) inferInstance (mmD ((0 : Int) ≤ (mAdd (mMul 5 (h1 313 1)) 3) ∧ (mAdd (mMul 5 (h1 313 1)) 3) < ((100 : Nat) : Int)) inferInstance (mmD ((0 : Int) ≤ (mAdd (mMul 5 (h1 313 1)) 4) ∧ (mAdd (mMul 5 (h1 313 1)) 4) < ((100 : Nat) : Int)) inferInstance (rB d k_m_lotTold n0 z0 Q 3 [(3, 282), (1, a1), (1, (h1 313 1)), (2, x2), (0, 0), (1, x4), (1, x6), (1, x8), (1, 0)] [] (mmS (mmS (mmS (mmS (mmS (mmS h8 314 (mAdd 10 (h1 313 1)) x2) 315 (mMul 5 (h1 313 1)) x4) 315 (mAdd (mMul 5 (h1 313 1)) 1) x6) 315 (mAdd (mMul 5 (h1 313 1)) 2) x8) 315 (mAdd (mMul 5 (h1 313 1)) 3) 0) 315 (mAdd (mMul 5 (h1 313 1)) 4) 0)))))))) ∧ (¬ ((h8 282 5) = 0) → Q 0 h8))))))))) ∧ (¬ (x1 = 0) → Q 0 h1))) : rB d k_m_lotTold n0 z0 Q 0 [(3, 282), (1, a1), (0, 0), (0, 0), (0, 0), (0, 0), (0, 0), (0, 0), (0, 0)] [] h :=
  rB_fold (cut := fun i => Nat.beq i 3) (f := 40) hy
set_option maxRecDepth 100000 in
theorem T_m_lotTold_3 (d : Nat) (n0 z0 : Int) (Q : Int → mmH → Prop) (h : mmH) (v1 : Int) (v2 : Int) (v3 : Int) (v5 : Int) (v6 : Int) (v7 : Int) (v8 : Int) (hy : (10 ≤ v8 → Q 0 (mmS h 313 1 (mAdd (h 313 1) 1))) ∧ (¬ (10 ≤ v8) → mmD ((0 : Int) ≤ (mAdd (mMul 10 v2) v8) ∧ (mAdd (mMul 10 v2) v8) < ((200 : Nat) : Int)) inferInstance (mmD ((0 : Int) ≤ (mAdd (mMul 10 v8) v2) ∧ (mAdd (mMul 10 v8) v2) < ((200 : Nat) : Int)) inferInstance (rB d k_m_lotTold n0 z0 Q 3 [(3, 282), (1, v1), (1, v2), (2, v3), (0, 0), (1, v5), (1, v6), (1, v7), (1, (mAdd v8 1))] [] (mmS (mmS h 316 (mAdd (mMul 10 v2) v8) 0) 316 (mAdd (mMul 10 v8) v2) 0))))) : rB d k_m_lotTold n0 z0 Q 3 [(3, 282), (1, v1), (1, v2), (2, v3), (0, 0), (1, v5), (1, v6), (1, v7), (1, v8)] [] h :=
  rB_fold (cut := fun i => Nat.beq i 3) (f := 40) hy
set_option maxRecDepth 100000 in
theorem T_m_asks_0 (d : Nat) (n0 z0 : Int) (Q : Int → mmH → Prop) (h : mmH) (a1 : Int) (hy : ((h 282 5) ≠ 0 → Q 0 h) ∧ (¬ ((h 282 5) ≠ 0) → rC d k_m_takes [282, a1] h (fun x1 h1 => (x1 ≠ 0 → Q 0 h1) ∧ (¬ (x1 ≠ 0) → rC d k_m_fail [282, 1, (h1 282 2)] h1 (fun x2 h2 => Q 0 h2))))) : rB d k_m_asks n0 z0 Q 0 [(3, 282), (3, a1)] [] h :=
  rB_fold (cut := fun i => false) (f := 40) hy
set_option maxRecDepth 100000 in
theorem T_m_oneOf_0 (d : Nat) (n0 z0 : Int) (Q : Int → mmH → Prop) (h : mmH) (a1 : Int) (hy : rC d k_m_name [282] h (fun x1 h1 => rC d k_m_nameOf [282, a1, x1] h1 (fun x2 h2 => ((h2 282 5) ≠ 0 → ((h2 282 5) ≠ 0 → Q 0 h2) ∧ (¬ ((h2 282 5) ≠ 0) → Q x2 h2)) ∧ (¬ ((h2 282 5) ≠ 0) → (x2 ≠ (-1) → ((h2 282 5) ≠ 0 → Q 0 h2) ∧ (¬ ((h2 282 5) ≠ 0) → Q x2 h2)) ∧ (¬ (x2 ≠ (-1)) → rC d k_m_fail [282, 3, (h2 282 38)] h2 (fun x3 h3 => ((h3 282 5) ≠ 0 → Q 0 h3) ∧ (¬ ((h3 282 5) ≠ 0) → Q x2 h3))))))) : rB d k_m_oneOf n0 z0 Q 0 [(3, 282), (1, a1), (0, 0), (0, 0), (0, 0)] [] h :=
  rB_fold (cut := fun i => false) (f := 40) hy
set_option maxRecDepth 100000 in
theorem T_m_number_0 (d : Nat) (n0 z0 : Int) (Q : Int → mmH → Prop) (h : mmH) (a1 : Int) (a2 : Int) (hy : ((h 282 5) = 0 → rC d k_m_look [282] h (fun x1 h1 => rC d k_m_isDigit [x1] h1 (fun x2 h2 => (x2 = 0 → rC d k_m_fail [282, 1, (h2 282 2)] h2 (fun x3 h3 => Q 0 h3)) ∧ (¬ (x2 = 0) → ((h2 282 2) ≠ (h2 282 4) → rB d k_m_number n0 z0 Q 4 [(3, 282), (1, a1), (1, a2), (1, (h2 282 2)), (1, 0)] [] h2) ∧ (¬ ((h2 282 2) ≠ (h2 282 4)) → rC d k_m_fail [282, 1, (h2 282 2)] h2 (fun x4 h4 => Q 0 h4)))))) ∧ (¬ ((h 282 5) = 0) → Q 0 h)) : rB d k_m_number n0 z0 Q 0 [(3, 282), (1, a1), (1, a2), (0, 0), (0, 0)] [] h :=
  rB_fold (cut := fun i => Nat.beq i 4 || Nat.beq i 6) (f := 40) hy
set_option maxRecDepth 100000 in
theorem T_m_number_4 (d : Nat) (n0 z0 : Int) (Q : Int → mmH → Prop) (h : mmH) (v1 : Int) (v2 : Int) (v3 : Int) (v4 : Int) (hy : ((h 282 3) ≤ (h 282 2) → rB d k_m_number n0 z0 Q 6 [(3, 282), (1, v1), (1, v2), (1, v3), (1, v4)] [] h) ∧ (¬ ((h 282 3) ≤ (h 282 2)) → mmD ((0 : Int) ≤ (h 282 2) ∧ (h 282 2) < ((1600 : Nat) : Int)) inferInstance (rC d k_m_isDigit [(h 283 (h 282 2))] h (fun x1 h1 => (x1 = 0 → rB d k_m_number n0 z0 Q 6 [(3, 282), (1, v1), (1, v2), (1, v3), (1, v4)] [] h1) ∧ (¬ (x1 = 0) → ((mSub (h1 282 2) v3) ≠ 4 → mmD ((0 : Int) ≤ (h1 282 2) ∧ (h1 282 2) < ((1600 : Nat) : Int)) inferInstance (rB d k_m_number n0 z0 Q 4 [(3, 282), (1, v1), (1, v2), (1, v3), (1, (mSub (mAdd (mMul 10 v4) (h1 283 (h1 282 2))) 48))] [] (mmS h1 282 2 (mAdd (h1 282 2) 1)))) ∧ (¬ ((mSub (h1 282 2) v3) ≠ 4) → rC d k_m_fail [282, 1, (h1 282 2)] h1 (fun x2 h2 => Q 0 h2))))))) : rB d k_m_number n0 z0 Q 4 [(3, 282), (1, v1), (1, v2), (1, v3), (1, v4)] [] h :=
  rB_fold (cut := fun i => Nat.beq i 4 || Nat.beq i 6) (f := 40) hy
set_option maxRecDepth 100000 in
theorem T_m_number_6 (d : Nat) (n0 z0 : Int) (Q : Int → mmH → Prop) (h : mmH) (v1 : Int) (v2 : Int) (v3 : Int) (v4 : Int) (hy : rC d k_m_isIn [v4, v1, v2] (mmS h 282 4 (h 282 2)) (fun x1 h1 => (x1 ≠ 0 → Q v4 h1) ∧ (¬ (x1 ≠ 0) → rC d k_m_fail [282, 2, v3] h1 (fun x2 h2 => Q v4 h2)))) : rB d k_m_number n0 z0 Q 6 [(3, 282), (1, v1), (1, v2), (1, v3), (1, v4)] [] h :=
  rB_fold (cut := fun i => Nat.beq i 4 || Nat.beq i 6) (f := 40) hy
set_option maxRecDepth 100000 in
theorem T_m_isDigit_0 (d : Nat) (n0 z0 : Int) (Q : Int → mmH → Prop) (h : mmH) (a0 : Int) (hy : (a0 < 48 → Q 0 h) ∧ (¬ (a0 < 48) → (57 < a0 → Q 0 h) ∧ (¬ (57 < a0) → Q 1 h))) : rB d k_m_isDigit n0 z0 Q 0 [(1, a0)] [] h :=
  rB_fold (cut := fun i => false) (f := 40) hy
set_option maxRecDepth 100000 in
theorem T_m_isIn_0 (d : Nat) (n0 z0 : Int) (Q : Int → mmH → Prop) (h : mmH) (a0 : Int) (a1 : Int) (a2 : Int) (hy : ((mLcmp a0 a1) < 0 → Q 0 h) ∧ (¬ ((mLcmp a0 a1) < 0) → (0 < (mLcmp a0 a2) → Q 0 h) ∧ (¬ (0 < (mLcmp a0 a2)) → Q 1 h))) : rB d k_m_isIn n0 z0 Q 0 [(2, a0), (0, 0), (2, a1), (0, 0), (2, a2), (0, 0)] [] h :=
  rB_fold (cut := fun i => false) (f := 40) hy
set_option maxRecDepth 100000 in
theorem T_m_innTold_0 (d : Nat) (n0 z0 : Int) (Q : Int → mmH → Prop) (h : mmH)  (hy : rC d k_m_oneOf [282, 1] h (fun x1 h1 => ((h1 282 5) ≠ 0 → rB d k_m_innTold n0 z0 Q 1 [(3, 282), (1, x1), (0, 0)] [] h1) ∧ (¬ ((h1 282 5) ≠ 0) → mmD ((0 : Int) ≤ (mAdd (mMul 5 x1) 3) ∧ (mAdd (mMul 5 x1) 3) < ((100 : Nat) : Int)) inferInstance (((h1 315 (mAdd (mMul 5 x1) 3)) ≤ 0 → rB d k_m_innTold n0 z0 Q 1 [(3, 282), (1, x1), (0, 0)] [] h1) ∧ (¬ ((h1 315 (mAdd (mMul 5 x1) 3)) ≤ 0) → rC d k_m_fail [282, 3, (h1 282 38)] h1 (fun x2 h2 => rB d k_m_innTold n0 z0 Q 1 [(3, 282), (1, x1), (0, 0)] [] h2)))))) : rB d k_m_innTold n0 z0 Q 0 [(3, 282), (0, 0), (0, 0)] [] h :=
  rB_fold (cut := fun i => Nat.beq i 1) (f := 40) hy
set_option maxRecDepth 100000 in
theorem T_m_innTold_1 (d : Nat) (n0 z0 : Int) (Q : Int → mmH → Prop) (h : mmH) (v1 : Int) (hy : rC d k_m_asks [282, 290] h (fun x1 h1 => rC d k_m_number [282, 1, 9] h1 (fun x2 h2 => ((h2 282 5) ≠ 0 → Q 0 h2) ∧ (¬ ((h2 282 5) ≠ 0) → mmD ((0 : Int) ≤ (mAdd (mMul 5 v1) 3) ∧ (mAdd (mMul 5 v1) 3) < ((100 : Nat) : Int)) inferInstance (Q 0 (mmS h2 315 (mAdd (mMul 5 v1) 3) x2)))))) : rB d k_m_innTold n0 z0 Q 1 [(3, 282), (1, v1), (0, 0)] [] h :=
  rB_fold (cut := fun i => Nat.beq i 1) (f := 40) hy
set_option maxRecDepth 100000 in
theorem T_m_storkTold_0 (d : Nat) (n0 z0 : Int) (Q : Int → mmH → Prop) (h : mmH)  (hy : rC d k_m_oneOf [282, 1] h (fun x1 h1 => ((h1 282 5) ≠ 0 → rB d k_m_storkTold n0 z0 Q 1 [(3, 282), (1, x1)] [] h1) ∧ (¬ ((h1 282 5) ≠ 0) → mmD ((0 : Int) ≤ (mAdd (mMul 5 x1) 4) ∧ (mAdd (mMul 5 x1) 4) < ((100 : Nat) : Int)) inferInstance (((h1 315 (mAdd (mMul 5 x1) 4)) ≤ 0 → rB d k_m_storkTold n0 z0 Q 1 [(3, 282), (1, x1)] [] h1) ∧ (¬ ((h1 315 (mAdd (mMul 5 x1) 4)) ≤ 0) → rC d k_m_fail [282, 3, (h1 282 38)] h1 (fun x2 h2 => rB d k_m_storkTold n0 z0 Q 1 [(3, 282), (1, x1)] [] h2)))))) : rB d k_m_storkTold n0 z0 Q 0 [(3, 282), (0, 0)] [] h :=
  rB_fold (cut := fun i => Nat.beq i 1) (f := 40) hy
set_option maxRecDepth 100000 in
theorem T_m_storkTold_1 (d : Nat) (n0 z0 : Int) (Q : Int → mmH → Prop) (h : mmH) (v1 : Int) (hy : ((h 282 5) ≠ 0 → Q 0 h) ∧ (¬ ((h 282 5) ≠ 0) → mmD ((0 : Int) ≤ (mAdd (mMul 5 v1) 4) ∧ (mAdd (mMul 5 v1) 4) < ((100 : Nat) : Int)) inferInstance (Q 0 (mmS h 315 (mAdd (mMul 5 v1) 4) 1)))) : rB d k_m_storkTold n0 z0 Q 1 [(3, 282), (1, v1)] [] h :=
  rB_fold (cut := fun i => Nat.beq i 1) (f := 40) hy
set_option maxRecDepth 100000 in
theorem T_m_gapTold_0 (d : Nat) (n0 z0 : Int) (Q : Int → mmH → Prop) (h : mmH) (a1 : Int) (hy : rC d k_m_isFull [282, 3, 20, a1] h (fun x1 h1 => (x1 = 0 → rC d k_m_oneOf [282, 1] h1 (fun x2 h2 => rC d k_m_oneOf [282, 1] h2 (fun x3 h3 => ((h3 282 5) ≠ 0 → rB d k_m_gapTold n0 z0 Q 3 [(3, 282), (1, a1), (1, x2), (1, x3), (0, 0)] [] h3) ∧ (¬ ((h3 282 5) ≠ 0) → (x2 = x3 → rC d k_m_fail [282, 3, (h3 282 38)] h3 (fun x4 h4 => rB d k_m_gapTold n0 z0 Q 3 [(3, 282), (1, a1), (1, x2), (1, x3), (0, 0)] [] h4)) ∧ (¬ (x2 = x3) → mmD ((0 : Int) ≤ (mAdd (mMul 10 x2) x3) ∧ (mAdd (mMul 10 x2) x3) < ((200 : Nat) : Int)) inferInstance (((h3 316 (mAdd (mMul 10 x2) x3)) ≤ 0 → rB d k_m_gapTold n0 z0 Q 3 [(3, 282), (1, a1), (1, x2), (1, x3), (0, 0)] [] h3) ∧ (¬ ((h3 316 (mAdd (mMul 10 x2) x3)) ≤ 0) → rC d k_m_fail [282, 3, (h3 282 38)] h3 (fun x5 h5 => rB d k_m_gapTold n0 z0 Q 3 [(3, 282), (1, a1), (1, x2), (1, x3), (0, 0)] [] h5)))))))) ∧ (¬ (x1 = 0) → Q 0 h1))) : rB d k_m_gapTold n0 z0 Q 0 [(3, 282), (1, a1), (0, 0), (0, 0), (0, 0)] [] h :=
  rB_fold (cut := fun i => Nat.beq i 3) (f := 40) hy
set_option maxRecDepth 100000 in
theorem T_m_gapTold_3 (d : Nat) (n0 z0 : Int) (Q : Int → mmH → Prop) (h : mmH) (v1 : Int) (v2 : Int) (v3 : Int) (hy : rC d k_m_asks [282, 293] h (fun x1 h1 => rC d k_m_number [282, 0, 9] h1 (fun x2 h2 => ((h2 282 5) = 0 → mmD ((0 : Int) ≤ (mAdd (mMul 10 v2) v3) ∧ (mAdd (mMul 10 v2) v3) < ((200 : Nat) : Int)) inferInstance (mmD ((0 : Int) ≤ (mAdd (mMul 10 v3) v2) ∧ (mAdd (mMul 10 v3) v2) < ((200 : Nat) : Int)) inferInstance (Q 0 (mmS (mmS (mmS h2 316 (mAdd (mMul 10 v2) v3) (mAdd x2 1)) 316 (mAdd (mMul 10 v3) v2) (mAdd x2 1)) 313 3 (mAdd (h2 313 3) 1))))) ∧ (¬ ((h2 282 5) = 0) → Q 0 h2)))) : rB d k_m_gapTold n0 z0 Q 3 [(3, 282), (1, v1), (1, v2), (1, v3), (0, 0)] [] h :=
  rB_fold (cut := fun i => Nat.beq i 3) (f := 40) hy
set_option maxRecDepth 100000 in
theorem T_m_personTold_0 (d : Nat) (n0 z0 : Int) (Q : Int → mmH → Prop) (h : mmH) (a1 : Int) (hy : rC d k_m_isFull [282, 2, 6, a1] h (fun x1 h1 => (x1 = 0 → rC d k_m_newName [282] h1 (fun x2 h2 => rC d k_m_asks [282, 295] h2 (fun x3 h3 => rC d k_m_number [282, 1, 99] h3 (fun x4 h4 => rC d k_m_asks [282, 296] h4 (fun x5 h5 => rC d k_m_number [282, 0, 9] h5 (fun x6 h6 => rC d k_m_asks [282, 297] h6 (fun x7 h7 => rC d k_m_number [282, 0, 20] h7 (fun x8 h8 => rC d k_m_asks [282, 298] h8 (fun x9 h9 => rC d k_m_number [282, 0, 9] h9 (fun x10 h10 => rC d k_m_asks [282, 299] h10 (fun x11 h11 => rC d k_m_oneOf [282, 1] h11 (fun x12 h12 => rC d k_m_asks [282, 300] h12 (fun x13 h13 => rC d k_m_oneOf [282, 1] h13 (fun x14 h14 => ((h14 282 5) ≠ 0 → rB d k_m_personTold n0 z0 Q 2 [(3, 282), (1, a1), (1, (mMul 6 (h1 313 2))), (2, x2), (0, 0), (1, x4), (1, x6), (1, x8), (1, x10), (1, x12), (1, x14)] [] h14) ∧ (¬ ((h14 282 5) ≠ 0) → (x12 ≠ x14 → rB d k_m_personTold n0 z0 Q 2 [(3, 282), (1, a1), (1, (mMul 6 (h1 313 2))), (2, x2), (0, 0), (1, x4), (1, x6), (1, x8), (1, x10), (1, x12), (1, x14)] [] h14) ∧ (¬ (x12 ≠ x14) → rC d k_m_fail [282, 3, (h14 282 38)] h14 (fun x15 h15 => rB d k_m_personTold n0 z0 Q 2 [(3, 282), (1, a1), (1, (mMul 6 (h1 313 2))), (2, x2), (0, 0), (1, x4), (1, x6), (1, x8), (1, x10), (1, x12), (1, x14)] [] h15))))))))))))))))) ∧ (¬ (x1 = 0) → Q 0 h1))) : rB d k_m_personTold n0 z0 Q 0 [(3, 282), (1, a1), (0, 0), (0, 0), (0, 0), (0, 0), (0, 0), (0, 0), (0, 0), (0, 0), (0, 0)] [] h :=
  rB_fold (cut := fun i => Nat.beq i 2) (f := 40) hy
set_option maxRecDepth 100000 in
theorem T_m_personTold_2 (d : Nat) (n0 z0 : Int) (Q : Int → mmH → Prop) (h : mmH) (v1 : Int) (v2 : Int) (v3 : Int) (v5 : Int) (v6 : Int) (v7 : Int) (v8 : Int) (v9 : Int) (v10 : Int) (hy : ((h 282 5) = 0 → mmD ((0 : Int) ≤ (mAdd 20 (h 313 2)) ∧ (mAdd 20 (h 313 2)) < ((60 : Nat) : Int)) inferInstance (mmD ((0 : Int) ≤ v2 ∧ v2 < ((72 : Nat) : Int)) inferInstance (mmD ((0 : Int) ≤ (mAdd v2 1) ∧ (mAdd v2 1) < ((72 : Nat) : Int)) inferInstance (mmD ((0 : Int) ≤ (mAdd v2 2) ∧ (mAdd v2 2) < ((72 : Nat) : Int)) inferInstance (mmD ((0 : Int) ≤ (mAdd v2 3) ∧ (mAdd v2 3) < ((72 : Nat) : Int)) inferInstance (mmD ((0 : Int) ≤ (mAdd v2 4) ∧ (mAdd v2 4) < ((72 : Nat) : Int)) inferInstance (mmD ((0 : Int) ≤ (mAdd v2 5) ∧ (mAdd v2 5) < ((72 : Nat) : Int)) inferInstance (Q 0 (mmS (mmS (mmS (mmS (mmS (mmS (mmS (mmS h 314 (mAdd 20 (h 313 2)) v3) 317 v2 v5) 317 (mAdd v2 1) v6) 317 (mAdd v2 2) v7) 317 (mAdd v2 3) v8) 317 (mAdd v2 4) v9) 317 (mAdd v2 5) v10) 313 2 (mAdd (h 313 2) 1)))))))))) ∧ (¬ ((h 282 5) = 0) → Q 0 h)) : rB d k_m_personTold n0 z0 Q 2 [(3, 282), (1, v1), (1, v2), (2, v3), (0, 0), (1, v5), (1, v6), (1, v7), (1, v8), (1, v9), (1, v10)] [] h :=
  rB_fold (cut := fun i => Nat.beq i 2) (f := 40) hy
set_option maxRecDepth 100000 in
theorem T_m_lawTold_0 (d : Nat) (n0 z0 : Int) (Q : Int → mmH → Prop) (h : mmH) (a1 : Int) (a2 : Int) (hy : rC d k_m_isFull [282, 4, 8, a1] h (fun x1 h1 => (x1 = 0 → rC d k_m_oneOf [282, 0] h1 (fun x2 h2 => mmD ((0 : Int) ≤ (h1 313 4) ∧ (h1 313 4) < ((16 : Nat) : Int)) inferInstance ((a2 = 0 → mmD ((0 : Int) ≤ (h1 313 4) ∧ (h1 313 4) < ((16 : Nat) : Int)) inferInstance (mmD ((0 : Int) ≤ (h1 313 4) ∧ (h1 313 4) < ((16 : Nat) : Int)) inferInstance (rC d k_m_clears [282] (mmS (mmS (mmS h2 320 (h1 313 4) x2) 321 (h1 313 4) 0) 324 (h1 313 4) (h2 282 50)) (fun x3 h3 => (a2 ≠ 0 → rB d k_m_lawTold n0 z0 Q 4 [(3, 282), (1, a1), (1, a2), (1, (h1 313 4))] [] h3) ∧ (¬ (a2 ≠ 0) → rC d k_m_sumsTold [282] h3 (fun x4 h4 => rB d k_m_lawTold n0 z0 Q 4 [(3, 282), (1, a1), (1, a2), (1, (h1 313 4))] [] h4)))))) ∧ (¬ (a2 = 0) → mmD ((0 : Int) ≤ (h1 313 4) ∧ (h1 313 4) < ((16 : Nat) : Int)) inferInstance (mmD ((0 : Int) ≤ (h1 313 4) ∧ (h1 313 4) < ((16 : Nat) : Int)) inferInstance (rC d k_m_clears [282] (mmS (mmS (mmS h2 320 (h1 313 4) x2) 321 (h1 313 4) 1) 324 (h1 313 4) (h2 282 50)) (fun x5 h5 => (a2 ≠ 0 → rB d k_m_lawTold n0 z0 Q 4 [(3, 282), (1, a1), (1, a2), (1, (h1 313 4))] [] h5) ∧ (¬ (a2 ≠ 0) → rC d k_m_sumsTold [282] h5 (fun x6 h6 => rB d k_m_lawTold n0 z0 Q 4 [(3, 282), (1, a1), (1, a2), (1, (h1 313 4))] [] h6))))))))) ∧ (¬ (x1 = 0) → Q 0 h1))) : rB d k_m_lawTold n0 z0 Q 0 [(3, 282), (1, a1), (1, a2), (0, 0)] [] h :=
  rB_fold (cut := fun i => Nat.beq i 4 || Nat.beq i 5) (f := 40) hy
set_option maxRecDepth 100000 in
theorem T_m_lawTold_4 (d : Nat) (n0 z0 : Int) (Q : Int → mmH → Prop) (h : mmH) (v1 : Int) (v2 : Int) (v3 : Int) (hy : mmD ((0 : Int) ≤ v3 ∧ v3 < ((16 : Nat) : Int)) inferInstance (rC d k_m_asks [282, 303] (mmS h 325 v3 (h 282 50)) (fun x1 h1 => rC d k_m_clears [282] h1 (fun x2 h2 => ((h2 282 5) ≠ 0 → rB d k_m_lawTold n0 z0 Q 5 [(3, 282), (1, v1), (1, v2), (1, v3)] [] h2) ∧ (¬ ((h2 282 5) ≠ 0) → rC d k_m_test [282] h2 (fun x3 h3 => rB d k_m_lawTold n0 z0 Q 5 [(3, 282), (1, v1), (1, v2), (1, v3)] [] h3)))))) : rB d k_m_lawTold n0 z0 Q 4 [(3, 282), (1, v1), (1, v2), (1, v3)] [] h :=
  rB_fold (cut := fun i => Nat.beq i 4 || Nat.beq i 5) (f := 40) hy
set_option maxRecDepth 100000 in
theorem T_m_lawTold_5 (d : Nat) (n0 z0 : Int) (Q : Int → mmH → Prop) (h : mmH) (v1 : Int) (v2 : Int) (v3 : Int) (hy : mmD ((0 : Int) ≤ v3 ∧ v3 < ((16 : Nat) : Int)) inferInstance (Q 0 (mmS (mmS h 326 v3 (h 282 50)) 313 4 (mAdd (h 313 4) 1)))) : rB d k_m_lawTold n0 z0 Q 5 [(3, 282), (1, v1), (1, v2), (1, v3)] [] h :=
  rB_fold (cut := fun i => Nat.beq i 4 || Nat.beq i 5) (f := 40) hy
set_option maxRecDepth 100000 in
theorem T_m_clears_0 (d : Nat) (n0 z0 : Int) (Q : Int → mmH → Prop) (h : mmH)  (hy : Q 0 (mmS (mmS (mmS h 282 52 0) 282 53 0) 282 57 0)) : rB d k_m_clears n0 z0 Q 0 [(3, 282)] [] h :=
  rB_fold (cut := fun i => false) (f := 40) hy
set_option maxRecDepth 100000 in
theorem T_m_sumsTold_0 (d : Nat) (n0 z0 : Int) (Q : Int → mmH → Prop) (h : mmH)  (hy : rB d k_m_sumsTold n0 z0 Q 1 [(3, 282), (1, (h 282 57)), (1, 1)] [] (mmS h 282 57 (h 282 52))) : rB d k_m_sumsTold n0 z0 Q 0 [(3, 282), (0, 0), (0, 0)] [] h :=
  rB_fold (cut := fun i => Nat.beq i 1 || Nat.beq i 4) (f := 40) hy
set_option maxRecDepth 100000 in
theorem T_m_sumsTold_1 (d : Nat) (n0 z0 : Int) (Q : Int → mmH → Prop) (h : mmH) (v1 : Int) (v2 : Int) (hy : (v2 = 0 → rB d k_m_sumsTold n0 z0 Q 4 [(3, 282), (1, v1), (1, v2)] [] h) ∧ (¬ (v2 = 0) → ((h 282 5) ≠ 0 → rB d k_m_sumsTold n0 z0 Q 4 [(3, 282), (1, v1), (1, v2)] [] h) ∧ (¬ ((h 282 5) ≠ 0) → rC d k_m_onePart [282] h (fun x1 h1 => ((h1 282 5) ≠ 0 → rB d k_m_sumsTold n0 z0 Q 1 [(3, 282), (1, v1), (1, 0)] [] h1) ∧ (¬ ((h1 282 5) ≠ 0) → rC d k_m_goesOn [282] h1 (fun x2 h2 => (x2 = 0 → rB d k_m_sumsTold n0 z0 Q 1 [(3, 282), (1, v1), (1, 0)] [] h2) ∧ (¬ (x2 = 0) → rB d k_m_sumsTold n0 z0 Q 1 [(3, 282), (1, v1), (1, 1)] [] h2))))))) : rB d k_m_sumsTold n0 z0 Q 1 [(3, 282), (1, v1), (1, v2)] [] h :=
  rB_fold (cut := fun i => Nat.beq i 1 || Nat.beq i 4) (f := 40) hy
set_option maxRecDepth 100000 in
theorem T_m_sumsTold_4 (d : Nat) (n0 z0 : Int) (Q : Int → mmH → Prop) (h : mmH) (v1 : Int) (v2 : Int) (hy : ((h 282 5) ≠ 0 → Q 0 (mmS h 282 57 v1)) ∧ (¬ ((h 282 5) ≠ 0) → ((h 282 52) ≤ (h 282 57) → Q 0 (mmS h 282 57 v1)) ∧ (¬ ((h 282 52) ≤ (h 282 57)) → rC d k_m_drops [282] h (fun x1 h1 => rB d k_m_sumsTold n0 z0 Q 4 [(3, 282), (1, v1), (1, v2)] [] h1)))) : rB d k_m_sumsTold n0 z0 Q 4 [(3, 282), (1, v1), (1, v2)] [] h :=
  rB_fold (cut := fun i => Nat.beq i 1 || Nat.beq i 4) (f := 40) hy
set_option maxRecDepth 100000 in
theorem T_m_onePart_0 (d : Nat) (n0 z0 : Int) (Q : Int → mmH → Prop) (h : mmH)  (hy : rB d k_m_onePart n0 z0 Q 1 [(3, 282), (1, 1), (0, 0), (0, 0), (0, 0)] [] h) : rB d k_m_onePart n0 z0 Q 0 [(3, 282), (0, 0), (0, 0), (0, 0), (0, 0)] [] h :=
  rB_fold (cut := fun i => Nat.beq i 1 || Nat.beq i 3 || Nat.beq i 6 || Nat.beq i 12 || Nat.beq i 19) (f := 40) hy
set_option maxRecDepth 100000 in
theorem T_m_onePart_1 (d : Nat) (n0 z0 : Int) (Q : Int → mmH → Prop) (h : mmH) (v1 : Int) (w2 : mmV) (w3 : mmV) (w4 : mmV) (hy : (v1 = 0 → rB d k_m_onePart n0 z0 Q 12 [(3, 282), (1, v1), w2, w3, w4] [] h) ∧ (¬ (v1 = 0) → ((h 282 5) ≠ 0 → rB d k_m_onePart n0 z0 Q 12 [(3, 282), (1, v1), w2, w3, w4] [] h) ∧ (¬ ((h 282 5) ≠ 0) → rC d k_m_look [282] h (fun x1 h1 => (x1 ≠ 40 → rC d k_m_isHere [282, 311] h1 (fun x2 h2 => (x2 ≠ 0 → rB d k_m_onePart n0 z0 Q 3 [(3, 282), (1, v1), (1, x1), w3, w4] [] h2) ∧ (¬ (x2 ≠ 0) → rC d k_m_isHere [282, 312] h2 (fun x3 h3 => (x3 = 0 → rB d k_m_onePart n0 z0 Q 1 [(3, 282), (1, 0), (1, x1), w3, w4] [] h3) ∧ (¬ (x3 = 0) → rB d k_m_onePart n0 z0 Q 3 [(3, 282), (1, v1), (1, x1), w3, w4] [] h3))))) ∧ (¬ (x1 ≠ 40) → rC d k_m_opens [282, 20, (h1 282 2)] h1 (fun x4 h4 => rB d k_m_onePart n0 z0 Q 1 [(3, 282), (1, v1), (1, x1), w3, w4] [] (mmS h4 282 2 (mAdd (h4 282 2) 1)))))))) : rB d k_m_onePart n0 z0 Q 1 [(3, 282), (1, v1), w2, w3, w4] [] h :=
  rB_fold (cut := fun i => Nat.beq i 1 || Nat.beq i 3 || Nat.beq i 6 || Nat.beq i 12 || Nat.beq i 19) (f := 40) hy
set_option maxRecDepth 100000 in
theorem T_m_onePart_3 (d : Nat) (n0 z0 : Int) (Q : Int → mmH → Prop) (h : mmH) (v1 : Int) (v2 : Int) (w3 : mmV) (w4 : mmV) (hy : rC d k_m_takes [282, 311] h (fun x1 h1 => (x1 ≠ 0 → rC d k_m_look [282] h1 (fun x2 h2 => (x2 ≠ 40 → rB d k_m_onePart n0 z0 Q 6 [(3, 282), (1, v1), (1, v2), (1, x1), w4] [(1, (-1))] h2) ∧ (¬ (x2 ≠ 40) → rB d k_m_onePart n0 z0 Q 6 [(3, 282), (1, v1), (1, v2), (1, x1), w4] [(1, (h2 282 2))] h2))) ∧ (¬ (x1 ≠ 0) → rC d k_m_asks [282, 312] h1 (fun x3 h3 => rC d k_m_look [282] h3 (fun x4 h4 => (x4 ≠ 40 → rB d k_m_onePart n0 z0 Q 6 [(3, 282), (1, v1), (1, v2), (1, x1), w4] [(1, (-1))] h4) ∧ (¬ (x4 ≠ 40) → rB d k_m_onePart n0 z0 Q 6 [(3, 282), (1, v1), (1, v2), (1, x1), w4] [(1, (h4 282 2))] h4)))))) : rB d k_m_onePart n0 z0 Q 3 [(3, 282), (1, v1), (1, v2), w3, w4] [] h :=
  rB_fold (cut := fun i => Nat.beq i 1 || Nat.beq i 3 || Nat.beq i 6 || Nat.beq i 12 || Nat.beq i 19) (f := 40) hy
set_option maxRecDepth 100000 in
theorem T_m_onePart_6 (d : Nat) (n0 z0 : Int) (Q : Int → mmH → Prop) (h : mmH) (v1 : Int) (v2 : Int) (v3 : Int) (w4 : mmV) (s0 : Int) (hy : (s0 = (-1) → rC d k_m_asksSign [282, 40] h (fun x1 h1 => rB d k_m_onePart n0 z0 Q 1 [(3, 282), (1, v1), (1, v2), (1, v3), (1, s0)] [] h1)) ∧ (¬ (s0 = (-1)) → (v3 = 0 → rC d k_m_opens [282, 22, s0] h (fun x2 h2 => rC d k_m_asksSign [282, 40] h2 (fun x3 h3 => rB d k_m_onePart n0 z0 Q 1 [(3, 282), (1, v1), (1, v2), (1, v3), (1, s0)] [] h3))) ∧ (¬ (v3 = 0) → rC d k_m_opens [282, 21, s0] h (fun x4 h4 => rC d k_m_asksSign [282, 40] h4 (fun x5 h5 => rB d k_m_onePart n0 z0 Q 1 [(3, 282), (1, v1), (1, v2), (1, v3), (1, s0)] [] h5))))) : rB d k_m_onePart n0 z0 Q 6 [(3, 282), (1, v1), (1, v2), (1, v3), w4] [(1, s0)] h :=
  rB_fold (cut := fun i => Nat.beq i 1 || Nat.beq i 3 || Nat.beq i 6 || Nat.beq i 12 || Nat.beq i 19) (f := 40) hy
set_option maxRecDepth 100000 in
theorem T_m_onePart_12 (d : Nat) (n0 z0 : Int) (Q : Int → mmH → Prop) (h : mmH) (v1 : Int) (w2 : mmV) (w3 : mmV) (w4 : mmV) (hy : ((h 282 5) = 0 → rC d k_m_takes [282, 295] h (fun x1 h1 => (x1 = 0 → rC d k_m_takes [282, 298] h1 (fun x2 h2 => (x2 = 0 → rC d k_m_takes [282, 287] h2 (fun x3 h3 => (x3 = 0 → rC d k_m_takes [282, 288] h3 (fun x4 h4 => (x4 = 0 → rC d k_m_takes [282, 306] h4 (fun x5 h5 => (x5 = 0 → rB d k_m_onePart n0 z0 Q 19 [(3, 282), (1, v1), w2, w3, w4] [(1, (-1))] h5) ∧ (¬ (x5 = 0) → rB d k_m_onePart n0 z0 Q 19 [(3, 282), (1, v1), w2, w3, w4] [(1, 11)] h5))) ∧ (¬ (x4 = 0) → rB d k_m_onePart n0 z0 Q 19 [(3, 282), (1, v1), w2, w3, w4] [(1, 10)] h4))) ∧ (¬ (x3 = 0) → rB d k_m_onePart n0 z0 Q 19 [(3, 282), (1, v1), w2, w3, w4] [(1, 9)] h3))) ∧ (¬ (x2 = 0) → rB d k_m_onePart n0 z0 Q 19 [(3, 282), (1, v1), w2, w3, w4] [(1, 8)] h2))) ∧ (¬ (x1 = 0) → rB d k_m_onePart n0 z0 Q 19 [(3, 282), (1, v1), w2, w3, w4] [(1, 7)] h1))) ∧ (¬ ((h 282 5) = 0) → Q 0 h)) : rB d k_m_onePart n0 z0 Q 12 [(3, 282), (1, v1), w2, w3, w4] [] h :=
  rB_fold (cut := fun i => Nat.beq i 1 || Nat.beq i 3 || Nat.beq i 6 || Nat.beq i 12 || Nat.beq i 19) (f := 40) hy
set_option maxRecDepth 100000 in
theorem T_m_onePart_19 (d : Nat) (n0 z0 : Int) (Q : Int → mmH → Prop) (h : mmH) (v1 : Int) (w2 : mmV) (w3 : mmV) (w4 : mmV) (s0 : Int) (hy : (s0 = (-1) → rC d k_m_number [282, 0, 9999] h (fun x1 h1 => rC d k_m_code [282, (mAdd 1000 x1)] h1 (fun x2 h2 => Q 0 h2))) ∧ (¬ (s0 = (-1)) → rC d k_m_code [282, s0] h (fun x3 h3 => Q 0 h3))) : rB d k_m_onePart n0 z0 Q 19 [(3, 282), (1, v1), w2, w3, w4] [(1, s0)] h :=
  rB_fold (cut := fun i => Nat.beq i 1 || Nat.beq i 3 || Nat.beq i 6 || Nat.beq i 12 || Nat.beq i 19) (f := 40) hy
end
section
/-! ===== mm: trees, by program ===== -/
set_option maxRecDepth 100000 in
theorem T_m_opens_0 (d : Nat) (n0 z0 : Int) (Q : Int → mmH → Prop) (h : mmH) (a1 : Int) (a2 : Int) (hy : ((h 282 53) ≠ 6 → mmD ((0 : Int) ≤ (h 282 52) ∧ (h 282 52) < ((1700 : Nat) : Int)) inferInstance (Q 0 (mmS (mmS (mmS h 282 53 (mAdd (h 282 53) 1)) 323 (h 282 52) a1) 282 52 (mAdd (h 282 52) 1)))) ∧ (¬ ((h 282 53) ≠ 6) → rC d k_m_fail [282, 4, a2] h (fun x1 h1 => Q 0 h1))) : rB d k_m_opens n0 z0 Q 0 [(3, 282), (1, a1), (1, a2)] [] h :=
  rB_fold (cut := fun i => false) (f := 40) hy
set_option maxRecDepth 100000 in
theorem T_m_asksSign_0 (d : Nat) (n0 z0 : Int) (Q : Int → mmH → Prop) (h : mmH) (a1 : Int) (hy : ((h 282 5) ≠ 0 → Q 0 h) ∧ (¬ ((h 282 5) ≠ 0) → rC d k_m_takesSign [282, a1] h (fun x1 h1 => (x1 ≠ 0 → Q 0 h1) ∧ (¬ (x1 ≠ 0) → rC d k_m_fail [282, 1, (h1 282 2)] h1 (fun x2 h2 => Q 0 h2))))) : rB d k_m_asksSign n0 z0 Q 0 [(3, 282), (1, a1)] [] h :=
  rB_fold (cut := fun i => false) (f := 40) hy
set_option maxRecDepth 100000 in
theorem T_m_takesSign_0 (d : Nat) (n0 z0 : Int) (Q : Int → mmH → Prop) (h : mmH) (a1 : Int) (hy : ((h 282 5) ≠ 0 → Q 0 h) ∧ (¬ ((h 282 5) ≠ 0) → rC d k_m_look [282] h (fun x1 h1 => (x1 = a1 → Q 1 (mmS h1 282 2 (mAdd (h1 282 2) 1))) ∧ (¬ (x1 = a1) → Q 0 h1)))) : rB d k_m_takesSign n0 z0 Q 0 [(3, 282), (1, a1)] [] h :=
  rB_fold (cut := fun i => false) (f := 40) hy
set_option maxRecDepth 100000 in
theorem T_m_code_0 (d : Nat) (n0 z0 : Int) (Q : Int → mmH → Prop) (h : mmH) (a1 : Int) (hy : mmD ((0 : Int) ≤ (mAdd 0 (h 282 50)) ∧ (mAdd 0 (h 282 50)) < ((3200 : Nat) : Int)) inferInstance (Q 0 (mmS (mmS h 322 (mAdd 0 (h 282 50)) a1) 282 50 (mAdd (h 282 50) 1)))) : rB d k_m_code n0 z0 Q 0 [(3, 282), (1, a1)] [] h :=
  rB_fold (cut := fun i => false) (f := 40) hy
set_option maxRecDepth 100000 in
theorem T_m_goesOn_0 (d : Nat) (n0 z0 : Int) (Q : Int → mmH → Prop) (h : mmH)  (hy : ((h 282 5) ≠ 0 → rB d k_m_goesOn n0 z0 Q 4 [(3, 282), (0, 0)] [] h) ∧ (¬ ((h 282 5) ≠ 0) → rC d k_m_look [282] h (fun x1 h1 => (x1 ≠ 41 → rB d k_m_goesOn n0 z0 Q 4 [(3, 282), (0, 0)] [] h1) ∧ (¬ (x1 ≠ 41) → rC d k_m_mark [282] h1 (fun x2 h2 => (x2 = 20 → rB d k_m_goesOn n0 z0 Q 1 [(3, 282), (0, 0)] [] h2) ∧ (¬ (x2 = 20) → rC d k_m_mark [282] h2 (fun x3 h3 => (x3 = 23 → rB d k_m_goesOn n0 z0 Q 1 [(3, 282), (0, 0)] [] h3) ∧ (¬ (x3 = 23) → rC d k_m_mark [282] h3 (fun x4 h4 => (x4 ≠ 24 → rB d k_m_goesOn n0 z0 Q 4 [(3, 282), (0, 0)] [] h4) ∧ (¬ (x4 ≠ 24) → rB d k_m_goesOn n0 z0 Q 1 [(3, 282), (0, 0)] [] h4)))))))))) : rB d k_m_goesOn n0 z0 Q 0 [(3, 282), (0, 0)] [] h :=
  rB_fold (cut := fun i => Nat.beq i 0 || Nat.beq i 1 || Nat.beq i 4 || Nat.beq i 5 || Nat.beq i 8 || Nat.beq i 12 || Nat.beq i 15 || Nat.beq i 19) (f := 40) hy
set_option maxRecDepth 100000 in
theorem T_m_goesOn_1 (d : Nat) (n0 z0 : Int) (Q : Int → mmH → Prop) (h : mmH)  (hy : rC d k_m_dropsToMark [282] (mmS h 282 2 (mAdd (h 282 2) 1)) (fun x1 h1 => mmD ((0 : Int) ≤ (mSub (h1 282 52) 1) ∧ (mSub (h1 282 52) 1) < ((1700 : Nat) : Int)) inferInstance (((h1 323 (mSub (h1 282 52) 1)) = 20 → rB d k_m_goesOn n0 z0 Q 0 [(3, 282), (0, 0)] [] (mmS (mmS h1 282 52 (mSub (h1 282 52) 1)) 282 53 (mSub (h1 282 53) 1))) ∧ (¬ ((h1 323 (mSub (h1 282 52) 1)) = 20) → mmD ((0 : Int) ≤ (mSub (h1 282 52) 1) ∧ (mSub (h1 282 52) 1) < ((1700 : Nat) : Int)) inferInstance (((h1 323 (mSub (h1 282 52) 1)) ≠ 23 → rC d k_m_code [282, 6] (mmS (mmS h1 282 52 (mSub (h1 282 52) 1)) 282 53 (mSub (h1 282 53) 1)) (fun x2 h2 => rB d k_m_goesOn n0 z0 Q 0 [(3, 282), (0, 0)] [] h2)) ∧ (¬ ((h1 323 (mSub (h1 282 52) 1)) ≠ 23) → rC d k_m_code [282, 5] (mmS (mmS h1 282 52 (mSub (h1 282 52) 1)) 282 53 (mSub (h1 282 53) 1)) (fun x3 h3 => rB d k_m_goesOn n0 z0 Q 0 [(3, 282), (0, 0)] [] h3))))))) : rB d k_m_goesOn n0 z0 Q 1 [(3, 282), (0, 0)] [] h :=
  rB_fold (cut := fun i => Nat.beq i 0 || Nat.beq i 1 || Nat.beq i 4 || Nat.beq i 5 || Nat.beq i 8 || Nat.beq i 12 || Nat.beq i 15 || Nat.beq i 19) (f := 40) hy
set_option maxRecDepth 100000 in
theorem T_m_goesOn_4 (d : Nat) (n0 z0 : Int) (Q : Int → mmH → Prop) (h : mmH)  (hy : rC d k_m_takesSign [282, 42] h (fun x1 h1 => (x1 ≠ 0 → rB d k_m_goesOn n0 z0 Q 5 [(3, 282), (0, 0)] [] h1) ∧ (¬ (x1 ≠ 0) → rC d k_m_takesSign [282, 47] h1 (fun x2 h2 => (x2 = 0 → rC d k_m_takesSign [282, 43] h2 (fun x3 h3 => (x3 ≠ 0 → rB d k_m_goesOn n0 z0 Q 12 [(3, 282), (0, 0)] [] h3) ∧ (¬ (x3 ≠ 0) → rC d k_m_takesSign [282, 45] h3 (fun x4 h4 => (x4 = 0 → rC d k_m_mark [282] h4 (fun x5 h5 => (x5 = 21 → rB d k_m_goesOn n0 z0 Q 19 [(3, 282), (0, 0)] [] h5) ∧ (¬ (x5 = 21) → rC d k_m_mark [282] h5 (fun x6 h6 => (x6 ≠ 22 → rC d k_m_mark [282] h6 (fun x7 h7 => (x7 = (-1) → Q 0 h7) ∧ (¬ (x7 = (-1)) → ((h7 282 5) ≠ 0 → Q 0 h7) ∧ (¬ ((h7 282 5) ≠ 0) → rC d k_m_fail [282, 1, (h7 282 2)] h7 (fun x8 h8 => Q 0 h8))))) ∧ (¬ (x6 ≠ 22) → rB d k_m_goesOn n0 z0 Q 19 [(3, 282), (0, 0)] [] h6))))) ∧ (¬ (x4 = 0) → rB d k_m_goesOn n0 z0 Q 12 [(3, 282), (0, 0)] [] h4))))) ∧ (¬ (x2 = 0) → rB d k_m_goesOn n0 z0 Q 5 [(3, 282), (0, 0)] [] h2))))) : rB d k_m_goesOn n0 z0 Q 4 [(3, 282), (0, 0)] [] h :=
  rB_fold (cut := fun i => Nat.beq i 0 || Nat.beq i 1 || Nat.beq i 4 || Nat.beq i 5 || Nat.beq i 8 || Nat.beq i 12 || Nat.beq i 15 || Nat.beq i 19) (f := 40) hy
set_option maxRecDepth 100000 in
theorem T_m_goesOn_5 (d : Nat) (n0 z0 : Int) (Q : Int → mmH → Prop) (h : mmH)  (hy : mmD ((0 : Int) ≤ (mSub (h 282 2) 1) ∧ (mSub (h 282 2) 1) < ((1600 : Nat) : Int)) inferInstance (((h 283 (mSub (h 282 2) 1)) ≠ 42 → rB d k_m_goesOn n0 z0 Q 8 [(3, 282), (1, 4)] [] h) ∧ (¬ ((h 283 (mSub (h 282 2) 1)) ≠ 42) → rB d k_m_goesOn n0 z0 Q 8 [(3, 282), (1, 3)] [] h))) : rB d k_m_goesOn n0 z0 Q 5 [(3, 282), (0, 0)] [] h :=
  rB_fold (cut := fun i => Nat.beq i 0 || Nat.beq i 1 || Nat.beq i 4 || Nat.beq i 5 || Nat.beq i 8 || Nat.beq i 12 || Nat.beq i 15 || Nat.beq i 19) (f := 40) hy
set_option maxRecDepth 100000 in
theorem T_m_goesOn_8 (d : Nat) (n0 z0 : Int) (Q : Int → mmH → Prop) (h : mmH) (v1 : Int) (hy : rC d k_m_isOn [282, 3] h (fun x1 h1 => (x1 ≠ 0 → rC d k_m_drops [282] h1 (fun x2 h2 => rB d k_m_goesOn n0 z0 Q 8 [(3, 282), (1, v1)] [] h2)) ∧ (¬ (x1 ≠ 0) → rC d k_m_isOn [282, 4] h1 (fun x3 h3 => (x3 = 0 → mmD ((0 : Int) ≤ (h3 282 52) ∧ (h3 282 52) < ((1700 : Nat) : Int)) inferInstance (Q 1 (mmS (mmS h3 323 (h3 282 52) v1) 282 52 (mAdd (h3 282 52) 1)))) ∧ (¬ (x3 = 0) → rC d k_m_drops [282] h3 (fun x4 h4 => rB d k_m_goesOn n0 z0 Q 8 [(3, 282), (1, v1)] [] h4)))))) : rB d k_m_goesOn n0 z0 Q 8 [(3, 282), (1, v1)] [] h :=
  rB_fold (cut := fun i => Nat.beq i 0 || Nat.beq i 1 || Nat.beq i 4 || Nat.beq i 5 || Nat.beq i 8 || Nat.beq i 12 || Nat.beq i 15 || Nat.beq i 19) (f := 40) hy
set_option maxRecDepth 100000 in
theorem T_m_goesOn_12 (d : Nat) (n0 z0 : Int) (Q : Int → mmH → Prop) (h : mmH)  (hy : mmD ((0 : Int) ≤ (mSub (h 282 2) 1) ∧ (mSub (h 282 2) 1) < ((1600 : Nat) : Int)) inferInstance (((h 283 (mSub (h 282 2) 1)) ≠ 43 → rB d k_m_goesOn n0 z0 Q 15 [(3, 282), (1, 2)] [] h) ∧ (¬ ((h 283 (mSub (h 282 2) 1)) ≠ 43) → rB d k_m_goesOn n0 z0 Q 15 [(3, 282), (1, 1)] [] h))) : rB d k_m_goesOn n0 z0 Q 12 [(3, 282), (0, 0)] [] h :=
  rB_fold (cut := fun i => Nat.beq i 0 || Nat.beq i 1 || Nat.beq i 4 || Nat.beq i 5 || Nat.beq i 8 || Nat.beq i 12 || Nat.beq i 15 || Nat.beq i 19) (f := 40) hy
set_option maxRecDepth 100000 in
theorem T_m_goesOn_15 (d : Nat) (n0 z0 : Int) (Q : Int → mmH → Prop) (h : mmH) (v1 : Int) (hy : rC d k_m_isOn [282, 3] h (fun x1 h1 => (x1 ≠ 0 → rC d k_m_drops [282] h1 (fun x2 h2 => rB d k_m_goesOn n0 z0 Q 15 [(3, 282), (1, v1)] [] h2)) ∧ (¬ (x1 ≠ 0) → rC d k_m_isOn [282, 4] h1 (fun x3 h3 => (x3 ≠ 0 → rC d k_m_drops [282] h3 (fun x4 h4 => rB d k_m_goesOn n0 z0 Q 15 [(3, 282), (1, v1)] [] h4)) ∧ (¬ (x3 ≠ 0) → rC d k_m_isOn [282, 1] h3 (fun x5 h5 => (x5 ≠ 0 → rC d k_m_drops [282] h5 (fun x6 h6 => rB d k_m_goesOn n0 z0 Q 15 [(3, 282), (1, v1)] [] h6)) ∧ (¬ (x5 ≠ 0) → rC d k_m_isOn [282, 2] h5 (fun x7 h7 => (x7 = 0 → mmD ((0 : Int) ≤ (h7 282 52) ∧ (h7 282 52) < ((1700 : Nat) : Int)) inferInstance (Q 1 (mmS (mmS h7 323 (h7 282 52) v1) 282 52 (mAdd (h7 282 52) 1)))) ∧ (¬ (x7 = 0) → rC d k_m_drops [282] h7 (fun x8 h8 => rB d k_m_goesOn n0 z0 Q 15 [(3, 282), (1, v1)] [] h8)))))))))) : rB d k_m_goesOn n0 z0 Q 15 [(3, 282), (1, v1)] [] h :=
  rB_fold (cut := fun i => Nat.beq i 0 || Nat.beq i 1 || Nat.beq i 4 || Nat.beq i 5 || Nat.beq i 8 || Nat.beq i 12 || Nat.beq i 15 || Nat.beq i 19) (f := 40) hy
set_option maxRecDepth 100000 in
theorem T_m_goesOn_19 (d : Nat) (n0 z0 : Int) (Q : Int → mmH → Prop) (h : mmH)  (hy : rC d k_m_asksSign [282, 44] h (fun x1 h1 => ((h1 282 5) = 0 → rC d k_m_dropsToMark [282] h1 (fun x2 h2 => mmD ((0 : Int) ≤ (mSub (h2 282 52) 1) ∧ (mSub (h2 282 52) 1) < ((1700 : Nat) : Int)) inferInstance (mmD ((0 : Int) ≤ (mSub (h2 282 52) 1) ∧ (mSub (h2 282 52) 1) < ((1700 : Nat) : Int)) inferInstance (Q 1 (mmS h2 323 (mSub (h2 282 52) 1) (mAdd (h2 323 (mSub (h2 282 52) 1)) 2)))))) ∧ (¬ ((h1 282 5) = 0) → Q 0 h1))) : rB d k_m_goesOn n0 z0 Q 19 [(3, 282), (0, 0)] [] h :=
  rB_fold (cut := fun i => Nat.beq i 0 || Nat.beq i 1 || Nat.beq i 4 || Nat.beq i 5 || Nat.beq i 8 || Nat.beq i 12 || Nat.beq i 15 || Nat.beq i 19) (f := 40) hy
set_option maxRecDepth 100000 in
theorem T_m_mark_0 (d : Nat) (n0 z0 : Int) (Q : Int → mmH → Prop) (h : mmH)  (hy : rB d k_m_mark n0 z0 Q 1 [(3, 282), (1, (mSub (h 282 52) 1))] [] h) : rB d k_m_mark n0 z0 Q 0 [(3, 282), (0, 0)] [] h :=
  rB_fold (cut := fun i => Nat.beq i 1) (f := 40) hy
set_option maxRecDepth 100000 in
theorem T_m_mark_1 (d : Nat) (n0 z0 : Int) (Q : Int → mmH → Prop) (h : mmH) (v1 : Int) (hy : (v1 < (h 282 57) → (v1 < (h 282 57) → Q (-1) h) ∧ (¬ (v1 < (h 282 57)) → mmD ((0 : Int) ≤ v1 ∧ v1 < ((1700 : Nat) : Int)) inferInstance (Q (h 323 v1) h))) ∧ (¬ (v1 < (h 282 57)) → mmD ((0 : Int) ≤ v1 ∧ v1 < ((1700 : Nat) : Int)) inferInstance (rC d k_m_isMark [282, (h 323 v1)] h (fun x1 h1 => (x1 ≠ 0 → (v1 < (h1 282 57) → Q (-1) h1) ∧ (¬ (v1 < (h1 282 57)) → mmD ((0 : Int) ≤ v1 ∧ v1 < ((1700 : Nat) : Int)) inferInstance (Q (h1 323 v1) h1))) ∧ (¬ (x1 ≠ 0) → rB d k_m_mark n0 z0 Q 1 [(3, 282), (1, (mAdd v1 (-1)))] [] h1))))) : rB d k_m_mark n0 z0 Q 1 [(3, 282), (1, v1)] [] h :=
  rB_fold (cut := fun i => Nat.beq i 1) (f := 40) hy
set_option maxRecDepth 100000 in
theorem T_m_isMark_0 (d : Nat) (n0 z0 : Int) (Q : Int → mmH → Prop) (h : mmH) (a1 : Int) (hy : (a1 < 20 → Q 0 h) ∧ (¬ (a1 < 20) → (24 < a1 → Q 0 h) ∧ (¬ (24 < a1) → Q 1 h))) : rB d k_m_isMark n0 z0 Q 0 [(3, 282), (1, a1)] [] h :=
  rB_fold (cut := fun i => false) (f := 40) hy
set_option maxRecDepth 100000 in
theorem T_m_dropsToMark_0 (d : Nat) (n0 z0 : Int) (Q : Int → mmH → Prop) (h : mmH)  (hy : ((h 282 52) ≤ (h 282 57) → Q 0 h) ∧ (¬ ((h 282 52) ≤ (h 282 57)) → mmD ((0 : Int) ≤ (mSub (h 282 52) 1) ∧ (mSub (h 282 52) 1) < ((1700 : Nat) : Int)) inferInstance (rC d k_m_isMark [282, (h 323 (mSub (h 282 52) 1))] h (fun x1 h1 => (x1 ≠ 0 → Q 0 h1) ∧ (¬ (x1 ≠ 0) → rC d k_m_drops [282] h1 (fun x2 h2 => rB d k_m_dropsToMark n0 z0 Q 0 [(3, 282)] [] h2)))))) : rB d k_m_dropsToMark n0 z0 Q 0 [(3, 282)] [] h :=
  rB_fold (cut := fun i => Nat.beq i 0) (f := 40) hy
set_option maxRecDepth 100000 in
theorem T_m_drops_0 (d : Nat) (n0 z0 : Int) (Q : Int → mmH → Prop) (h : mmH)  (hy : mmD ((0 : Int) ≤ (mSub (h 282 52) 1) ∧ (mSub (h 282 52) 1) < ((1700 : Nat) : Int)) inferInstance (rC d k_m_code [282, (h 323 (mSub (h 282 52) 1))] (mmS h 282 52 (mSub (h 282 52) 1)) (fun x1 h1 => Q 0 h1))) : rB d k_m_drops n0 z0 Q 0 [(3, 282)] [] h :=
  rB_fold (cut := fun i => false) (f := 40) hy
set_option maxRecDepth 100000 in
theorem T_m_isOn_0 (d : Nat) (n0 z0 : Int) (Q : Int → mmH → Prop) (h : mmH) (a1 : Int) (hy : ((h 282 52) ≤ 0 → Q 0 h) ∧ (¬ ((h 282 52) ≤ 0) → mmD ((0 : Int) ≤ (mSub (h 282 52) 1) ∧ (mSub (h 282 52) 1) < ((1700 : Nat) : Int)) inferInstance (((h 323 (mSub (h 282 52) 1)) ≠ a1 → Q 0 h) ∧ (¬ ((h 323 (mSub (h 282 52) 1)) ≠ a1) → Q 1 h)))) : rB d k_m_isOn n0 z0 Q 0 [(3, 282), (1, a1)] [] h :=
  rB_fold (cut := fun i => false) (f := 40) hy
set_option maxRecDepth 100000 in
theorem T_m_test_0 (d : Nat) (n0 z0 : Int) (Q : Int → mmH → Prop) (h : mmH)  (hy : rB d k_m_test n0 z0 Q 1 [(3, 282), (1, 1), (0, 0)] [] h) : rB d k_m_test n0 z0 Q 0 [(3, 282), (0, 0), (0, 0)] [] h :=
  rB_fold (cut := fun i => Nat.beq i 1 || Nat.beq i 6) (f := 40) hy
set_option maxRecDepth 100000 in
theorem T_m_test_1 (d : Nat) (n0 z0 : Int) (Q : Int → mmH → Prop) (h : mmH) (v1 : Int) (w2 : mmV) (hy : (v1 = 0 → rB d k_m_test n0 z0 Q 6 [(3, 282), (1, v1), w2] [] h) ∧ (¬ (v1 = 0) → ((h 282 5) ≠ 0 → rB d k_m_test n0 z0 Q 6 [(3, 282), (1, v1), w2] [] h) ∧ (¬ ((h 282 5) ≠ 0) → rC d k_m_look [282] h (fun x1 h1 => (x1 ≠ 91 → rC d k_m_isHere [282, 309] h1 (fun x2 h2 => (x2 = 0 → rC d k_m_fact [282] h2 (fun x3 h3 => rC d k_m_dropsNots [282] h3 (fun x4 h4 => ((h4 282 5) ≠ 0 → rB d k_m_test n0 z0 Q 1 [(3, 282), (1, 0), (1, x1)] [] h4) ∧ (¬ ((h4 282 5) ≠ 0) → rC d k_m_goesOnTest [282] h4 (fun x5 h5 => (x5 = 0 → rB d k_m_test n0 z0 Q 1 [(3, 282), (1, 0), (1, x1)] [] h5) ∧ (¬ (x5 = 0) → rB d k_m_test n0 z0 Q 1 [(3, 282), (1, 1), (1, x1)] [] h5)))))) ∧ (¬ (x2 = 0) → rC d k_m_opens [282, 17, (h2 282 2)] h2 (fun x6 h6 => rC d k_m_asks [282, 309] h6 (fun x7 h7 => rB d k_m_test n0 z0 Q 1 [(3, 282), (1, v1), (1, x1)] [] h7))))) ∧ (¬ (x1 ≠ 91) → rC d k_m_opens [282, 25, (h1 282 2)] h1 (fun x8 h8 => rB d k_m_test n0 z0 Q 1 [(3, 282), (1, v1), (1, x1)] [] (mmS h8 282 2 (mAdd (h8 282 2) 1)))))))) : rB d k_m_test n0 z0 Q 1 [(3, 282), (1, v1), w2] [] h :=
  rB_fold (cut := fun i => Nat.beq i 1 || Nat.beq i 6) (f := 40) hy
set_option maxRecDepth 100000 in
theorem T_m_test_6 (d : Nat) (n0 z0 : Int) (Q : Int → mmH → Prop) (h : mmH) (v1 : Int) (w2 : mmV) (hy : ((h 282 5) ≠ 0 → Q 0 h) ∧ (¬ ((h 282 5) ≠ 0) → ((h 282 52) ≤ 0 → Q 0 h) ∧ (¬ ((h 282 52) ≤ 0) → rC d k_m_drops [282] h (fun x1 h1 => rB d k_m_test n0 z0 Q 6 [(3, 282), (1, v1), w2] [] h1)))) : rB d k_m_test n0 z0 Q 6 [(3, 282), (1, v1), w2] [] h :=
  rB_fold (cut := fun i => Nat.beq i 1 || Nat.beq i 6) (f := 40) hy
set_option maxRecDepth 100000 in
theorem T_m_fact_0 (d : Nat) (n0 z0 : Int) (Q : Int → mmH → Prop) (h : mmH)  (hy : rC d k_m_takes [282, 310] h (fun x1 h1 => (x1 = 0 → rC d k_m_sumsTold [282] h1 (fun x2 h2 => ((h2 282 5) = 0 → rC d k_m_look [282] h2 (fun x3 h3 => (x3 = 60 → rB d k_m_fact n0 z0 Q 3 [(3, 282), (1, x3)] [] h3) ∧ (¬ (x3 = 60) → (x3 = 62 → rB d k_m_fact n0 z0 Q 3 [(3, 282), (1, x3)] [] h3) ∧ (¬ (x3 = 62) → (x3 = 61 → rB d k_m_fact n0 z0 Q 3 [(3, 282), (1, x3)] [] h3) ∧ (¬ (x3 = 61) → rC d k_m_fail [282, 1, (h3 282 2)] h3 (fun x4 h4 => Q 0 h4)))))) ∧ (¬ ((h2 282 5) = 0) → Q 0 h2))) ∧ (¬ (x1 = 0) → rC d k_m_code [282, 18] h1 (fun x5 h5 => Q 0 h5)))) : rB d k_m_fact n0 z0 Q 0 [(3, 282), (0, 0)] [] h :=
  rB_fold (cut := fun i => Nat.beq i 3) (f := 40) hy
set_option maxRecDepth 100000 in
theorem T_m_fact_3 (d : Nat) (n0 z0 : Int) (Q : Int → mmH → Prop) (h : mmH) (v1 : Int) (hy : rC d k_m_sumsTold [282] (mmS h 282 2 (mAdd (h 282 2) 1)) (fun x1 h1 => (v1 ≠ 60 → (v1 ≠ 62 → rC d k_m_code [282, 14] h1 (fun x2 h2 => Q 0 h2)) ∧ (¬ (v1 ≠ 62) → rC d k_m_code [282, 13] h1 (fun x3 h3 => Q 0 h3))) ∧ (¬ (v1 ≠ 60) → rC d k_m_code [282, 12] h1 (fun x4 h4 => Q 0 h4)))) : rB d k_m_fact n0 z0 Q 3 [(3, 282), (1, v1)] [] h :=
  rB_fold (cut := fun i => Nat.beq i 3) (f := 40) hy
set_option maxRecDepth 100000 in
theorem T_m_dropsNots_0 (d : Nat) (n0 z0 : Int) (Q : Int → mmH → Prop) (h : mmH)  (hy : ((h 282 5) ≠ 0 → Q 0 h) ∧ (¬ ((h 282 5) ≠ 0) → rC d k_m_isOn [282, 17] h (fun x1 h1 => (x1 = 0 → Q 0 h1) ∧ (¬ (x1 = 0) → rC d k_m_drops [282] (mmS h1 282 53 (mSub (h1 282 53) 1)) (fun x2 h2 => rB d k_m_dropsNots n0 z0 Q 0 [(3, 282)] [] h2))))) : rB d k_m_dropsNots n0 z0 Q 0 [(3, 282)] [] h :=
  rB_fold (cut := fun i => Nat.beq i 0) (f := 40) hy
set_option maxRecDepth 100000 in
theorem T_m_goesOnTest_0 (d : Nat) (n0 z0 : Int) (Q : Int → mmH → Prop) (h : mmH)  (hy : ((h 282 5) ≠ 0 → rB d k_m_goesOnTest n0 z0 Q 3 [(3, 282)] [] h) ∧ (¬ ((h 282 5) ≠ 0) → rC d k_m_look [282] h (fun x1 h1 => (x1 ≠ 93 → rB d k_m_goesOnTest n0 z0 Q 3 [(3, 282)] [] h1) ∧ (¬ (x1 ≠ 93) → rC d k_m_hasSquare [282] h1 (fun x2 h2 => (x2 = 0 → rB d k_m_goesOnTest n0 z0 Q 3 [(3, 282)] [] h2) ∧ (¬ (x2 = 0) → rB d k_m_goesOnTest n0 z0 Q 1 [(3, 282)] [] (mmS h2 282 2 (mAdd (h2 282 2) 1)))))))) : rB d k_m_goesOnTest n0 z0 Q 0 [(3, 282)] [] h :=
  rB_fold (cut := fun i => Nat.beq i 0 || Nat.beq i 1 || Nat.beq i 3 || Nat.beq i 4 || Nat.beq i 7) (f := 40) hy
set_option maxRecDepth 100000 in
theorem T_m_goesOnTest_1 (d : Nat) (n0 z0 : Int) (Q : Int → mmH → Prop) (h : mmH)  (hy : rC d k_m_isOn [282, 25] h (fun x1 h1 => (x1 ≠ 0 → rC d k_m_dropsNots [282] (mmS (mmS h1 282 52 (mSub (h1 282 52) 1)) 282 53 (mSub (h1 282 53) 1)) (fun x2 h2 => rB d k_m_goesOnTest n0 z0 Q 0 [(3, 282)] [] h2)) ∧ (¬ (x1 ≠ 0) → rC d k_m_drops [282] h1 (fun x3 h3 => rB d k_m_goesOnTest n0 z0 Q 1 [(3, 282)] [] h3)))) : rB d k_m_goesOnTest n0 z0 Q 1 [(3, 282)] [] h :=
  rB_fold (cut := fun i => Nat.beq i 0 || Nat.beq i 1 || Nat.beq i 3 || Nat.beq i 4 || Nat.beq i 7) (f := 40) hy
set_option maxRecDepth 100000 in
theorem T_m_goesOnTest_3 (d : Nat) (n0 z0 : Int) (Q : Int → mmH → Prop) (h : mmH)  (hy : rC d k_m_takes [282, 308] h (fun x1 h1 => (x1 = 0 → rC d k_m_takes [282, 307] h1 (fun x2 h2 => (x2 = 0 → ((h2 282 5) ≠ 0 → Q 0 h2) ∧ (¬ ((h2 282 5) ≠ 0) → rC d k_m_hasSquare [282] h2 (fun x3 h3 => (x3 = 0 → Q 0 h3) ∧ (¬ (x3 = 0) → rC d k_m_fail [282, 1, (h3 282 2)] h3 (fun x4 h4 => Q 0 h4))))) ∧ (¬ (x2 = 0) → rB d k_m_goesOnTest n0 z0 Q 7 [(3, 282)] [] h2))) ∧ (¬ (x1 = 0) → rB d k_m_goesOnTest n0 z0 Q 4 [(3, 282)] [] h1))) : rB d k_m_goesOnTest n0 z0 Q 3 [(3, 282)] [] h :=
  rB_fold (cut := fun i => Nat.beq i 0 || Nat.beq i 1 || Nat.beq i 3 || Nat.beq i 4 || Nat.beq i 7) (f := 40) hy
set_option maxRecDepth 100000 in
theorem T_m_goesOnTest_4 (d : Nat) (n0 z0 : Int) (Q : Int → mmH → Prop) (h : mmH)  (hy : rC d k_m_isOn [282, 15] h (fun x1 h1 => (x1 = 0 → mmD ((0 : Int) ≤ (h1 282 52) ∧ (h1 282 52) < ((1700 : Nat) : Int)) inferInstance (Q 1 (mmS (mmS h1 323 (h1 282 52) 15) 282 52 (mAdd (h1 282 52) 1)))) ∧ (¬ (x1 = 0) → rC d k_m_drops [282] h1 (fun x2 h2 => rB d k_m_goesOnTest n0 z0 Q 4 [(3, 282)] [] h2)))) : rB d k_m_goesOnTest n0 z0 Q 4 [(3, 282)] [] h :=
  rB_fold (cut := fun i => Nat.beq i 0 || Nat.beq i 1 || Nat.beq i 3 || Nat.beq i 4 || Nat.beq i 7) (f := 40) hy
set_option maxRecDepth 100000 in
theorem T_m_goesOnTest_7 (d : Nat) (n0 z0 : Int) (Q : Int → mmH → Prop) (h : mmH)  (hy : rC d k_m_isOn [282, 15] h (fun x1 h1 => (x1 ≠ 0 → rC d k_m_drops [282] h1 (fun x2 h2 => rB d k_m_goesOnTest n0 z0 Q 7 [(3, 282)] [] h2)) ∧ (¬ (x1 ≠ 0) → rC d k_m_isOn [282, 16] h1 (fun x3 h3 => (x3 = 0 → mmD ((0 : Int) ≤ (h3 282 52) ∧ (h3 282 52) < ((1700 : Nat) : Int)) inferInstance (Q 1 (mmS (mmS h3 323 (h3 282 52) 16) 282 52 (mAdd (h3 282 52) 1)))) ∧ (¬ (x3 = 0) → rC d k_m_drops [282] h3 (fun x4 h4 => rB d k_m_goesOnTest n0 z0 Q 7 [(3, 282)] [] h4)))))) : rB d k_m_goesOnTest n0 z0 Q 7 [(3, 282)] [] h :=
  rB_fold (cut := fun i => Nat.beq i 0 || Nat.beq i 1 || Nat.beq i 3 || Nat.beq i 4 || Nat.beq i 7) (f := 40) hy
set_option maxRecDepth 100000 in
theorem T_m_hasSquare_0 (d : Nat) (n0 z0 : Int) (Q : Int → mmH → Prop) (h : mmH)  (hy : rB d k_m_hasSquare n0 z0 Q 1 [(3, 282), (1, 0)] [] h) : rB d k_m_hasSquare n0 z0 Q 0 [(3, 282), (0, 0)] [] h :=
  rB_fold (cut := fun i => Nat.beq i 1) (f := 40) hy
set_option maxRecDepth 100000 in
theorem T_m_hasSquare_1 (d : Nat) (n0 z0 : Int) (Q : Int → mmH → Prop) (h : mmH) (v1 : Int) (hy : ((h 282 52) ≤ v1 → Q 0 h) ∧ (¬ ((h 282 52) ≤ v1) → mmD ((0 : Int) ≤ v1 ∧ v1 < ((1700 : Nat) : Int)) inferInstance (((h 323 v1) ≠ 25 → rB d k_m_hasSquare n0 z0 Q 1 [(3, 282), (1, (mAdd v1 1))] [] h) ∧ (¬ ((h 323 v1) ≠ 25) → Q 1 h)))) : rB d k_m_hasSquare n0 z0 Q 1 [(3, 282), (1, v1)] [] h :=
  rB_fold (cut := fun i => Nat.beq i 1) (f := 40) hy
set_option maxRecDepth 100000 in
theorem T_m_stands_0 (d : Nat) (n0 z0 : Int) (Q : Int → mmH → Prop) (h : mmH)  (hy : rB d k_m_stands n0 z0 Q 1 [(3, 282), (1, 0)] [] h) : rB d k_m_stands n0 z0 Q 0 [(3, 282), (0, 0)] [] h :=
  rB_fold (cut := fun i => Nat.beq i 1 || Nat.beq i 3 || Nat.beq i 5 || Nat.beq i 7 || Nat.beq i 9 || Nat.beq i 11 || Nat.beq i 13 || Nat.beq i 15 || Nat.beq i 17 || Nat.beq i 19) (f := 40) hy
set_option maxRecDepth 100000 in
theorem T_m_stands_1 (d : Nat) (n0 z0 : Int) (Q : Int → mmH → Prop) (h : mmH) (v1 : Int) (hy : (5 ≤ v1 → rB d k_m_stands n0 z0 Q 3 [(3, 282), (1, 0)] [] h) ∧ (¬ (5 ≤ v1) → mmD ((0 : Int) ≤ v1 ∧ v1 < ((10 : Nat) : Int)) inferInstance (mmD ((0 : Int) ≤ (mAdd 5 v1) ∧ (mAdd 5 v1) < ((10 : Nat) : Int)) inferInstance (rB d k_m_stands n0 z0 Q 1 [(3, 282), (1, (mAdd v1 1))] [] (mmS h 313 (mAdd 5 v1) (h 313 v1)))))) : rB d k_m_stands n0 z0 Q 1 [(3, 282), (1, v1)] [] h :=
  rB_fold (cut := fun i => Nat.beq i 1 || Nat.beq i 3 || Nat.beq i 5 || Nat.beq i 7 || Nat.beq i 9 || Nat.beq i 11 || Nat.beq i 13 || Nat.beq i 15 || Nat.beq i 17 || Nat.beq i 19) (f := 40) hy
set_option maxRecDepth 100000 in
theorem T_m_stands_3 (d : Nat) (n0 z0 : Int) (Q : Int → mmH → Prop) (h : mmH) (v1 : Int) (hy : (30 ≤ v1 → rB d k_m_stands n0 z0 Q 5 [(3, 282), (1, 0)] [] h) ∧ (¬ (30 ≤ v1) → mmD ((0 : Int) ≤ v1 ∧ v1 < ((60 : Nat) : Int)) inferInstance (mmD ((0 : Int) ≤ (mAdd 30 v1) ∧ (mAdd 30 v1) < ((60 : Nat) : Int)) inferInstance (rB d k_m_stands n0 z0 Q 3 [(3, 282), (1, (mAdd v1 1))] [] (mmS h 314 (mAdd 30 v1) (h 314 v1)))))) : rB d k_m_stands n0 z0 Q 3 [(3, 282), (1, v1)] [] h :=
  rB_fold (cut := fun i => Nat.beq i 1 || Nat.beq i 3 || Nat.beq i 5 || Nat.beq i 7 || Nat.beq i 9 || Nat.beq i 11 || Nat.beq i 13 || Nat.beq i 15 || Nat.beq i 17 || Nat.beq i 19) (f := 40) hy
set_option maxRecDepth 100000 in
theorem T_m_stands_5 (d : Nat) (n0 z0 : Int) (Q : Int → mmH → Prop) (h : mmH) (v1 : Int) (hy : (50 ≤ v1 → rB d k_m_stands n0 z0 Q 7 [(3, 282), (1, 0)] [] h) ∧ (¬ (50 ≤ v1) → mmD ((0 : Int) ≤ v1 ∧ v1 < ((100 : Nat) : Int)) inferInstance (mmD ((0 : Int) ≤ (mAdd 50 v1) ∧ (mAdd 50 v1) < ((100 : Nat) : Int)) inferInstance (rB d k_m_stands n0 z0 Q 5 [(3, 282), (1, (mAdd v1 1))] [] (mmS h 315 (mAdd 50 v1) (h 315 v1)))))) : rB d k_m_stands n0 z0 Q 5 [(3, 282), (1, v1)] [] h :=
  rB_fold (cut := fun i => Nat.beq i 1 || Nat.beq i 3 || Nat.beq i 5 || Nat.beq i 7 || Nat.beq i 9 || Nat.beq i 11 || Nat.beq i 13 || Nat.beq i 15 || Nat.beq i 17 || Nat.beq i 19) (f := 40) hy
set_option maxRecDepth 100000 in
theorem T_m_stands_7 (d : Nat) (n0 z0 : Int) (Q : Int → mmH → Prop) (h : mmH) (v1 : Int) (hy : (100 ≤ v1 → rB d k_m_stands n0 z0 Q 9 [(3, 282), (1, 0)] [] h) ∧ (¬ (100 ≤ v1) → mmD ((0 : Int) ≤ v1 ∧ v1 < ((200 : Nat) : Int)) inferInstance (mmD ((0 : Int) ≤ (mAdd 100 v1) ∧ (mAdd 100 v1) < ((200 : Nat) : Int)) inferInstance (rB d k_m_stands n0 z0 Q 7 [(3, 282), (1, (mAdd v1 1))] [] (mmS h 316 (mAdd 100 v1) (h 316 v1)))))) : rB d k_m_stands n0 z0 Q 7 [(3, 282), (1, v1)] [] h :=
  rB_fold (cut := fun i => Nat.beq i 1 || Nat.beq i 3 || Nat.beq i 5 || Nat.beq i 7 || Nat.beq i 9 || Nat.beq i 11 || Nat.beq i 13 || Nat.beq i 15 || Nat.beq i 17 || Nat.beq i 19) (f := 40) hy
set_option maxRecDepth 100000 in
theorem T_m_stands_9 (d : Nat) (n0 z0 : Int) (Q : Int → mmH → Prop) (h : mmH) (v1 : Int) (hy : (36 ≤ v1 → rB d k_m_stands n0 z0 Q 11 [(3, 282), (1, 0)] [] (mmS (mmS h 318 1 (h 318 0)) 319 1 (h 319 0))) ∧ (¬ (36 ≤ v1) → mmD ((0 : Int) ≤ v1 ∧ v1 < ((72 : Nat) : Int)) inferInstance (mmD ((0 : Int) ≤ (mAdd 36 v1) ∧ (mAdd 36 v1) < ((72 : Nat) : Int)) inferInstance (rB d k_m_stands n0 z0 Q 9 [(3, 282), (1, (mAdd v1 1))] [] (mmS h 317 (mAdd 36 v1) (h 317 v1)))))) : rB d k_m_stands n0 z0 Q 9 [(3, 282), (1, v1)] [] h :=
  rB_fold (cut := fun i => Nat.beq i 1 || Nat.beq i 3 || Nat.beq i 5 || Nat.beq i 7 || Nat.beq i 9 || Nat.beq i 11 || Nat.beq i 13 || Nat.beq i 15 || Nat.beq i 17 || Nat.beq i 19) (f := 40) hy
set_option maxRecDepth 100000 in
theorem T_m_stands_11 (d : Nat) (n0 z0 : Int) (Q : Int → mmH → Prop) (h : mmH) (v1 : Int) (hy : (8 ≤ v1 → rB d k_m_stands n0 z0 Q 13 [(3, 282), (1, 0)] [] h) ∧ (¬ (8 ≤ v1) → mmD ((0 : Int) ≤ v1 ∧ v1 < ((16 : Nat) : Int)) inferInstance (mmD ((0 : Int) ≤ (mAdd 8 v1) ∧ (mAdd 8 v1) < ((16 : Nat) : Int)) inferInstance (mmD ((0 : Int) ≤ v1 ∧ v1 < ((16 : Nat) : Int)) inferInstance (mmD ((0 : Int) ≤ (mAdd 8 v1) ∧ (mAdd 8 v1) < ((16 : Nat) : Int)) inferInstance (mmD ((0 : Int) ≤ v1 ∧ v1 < ((16 : Nat) : Int)) inferInstance (mmD ((0 : Int) ≤ (mAdd 8 v1) ∧ (mAdd 8 v1) < ((16 : Nat) : Int)) inferInstance (mmD ((0 : Int) ≤ v1 ∧ v1 < ((16 : Nat) : Int)) inferInstance (mmD ((0 : Int) ≤ (mAdd 8 v1) ∧ (mAdd 8 v1) < ((16 : Nat) : Int)) inferInstance (mmD ((0 : Int) ≤ v1 ∧ v1 < ((16 : Nat) : Int)) inferInstance (mmD ((0 : Int) ≤ (mAdd 8 v1) ∧ (mAdd 8 v1) < ((16 : Nat) : Int)) inferInstance (rB d k_m_stands n0 z0 Q 11 [(3, 282), (1, (mAdd v1 1))] [] (mmS (mmS (mmS (mmS (mmS h 320 (mAdd 8 v1) (h 320 v1)) 321 (mAdd 8 v1) (h 321 v1)) 324 (mAdd 8 v1) (h 324 v1)) 325 (mAdd 8 v1) (h 325 v1)) 326 (mAdd 8 v1) (h 326 v1)))))))))))))) : rB d k_m_stands n0 z0 Q 11 [(3, 282), (1, v1)] [] h :=
  rB_fold (cut := fun i => Nat.beq i 1 || Nat.beq i 3 || Nat.beq i 5 || Nat.beq i 7 || Nat.beq i 9 || Nat.beq i 11 || Nat.beq i 13 || Nat.beq i 15 || Nat.beq i 17 || Nat.beq i 19) (f := 40) hy
set_option maxRecDepth 100000 in
theorem T_m_stands_13 (d : Nat) (n0 z0 : Int) (Q : Int → mmH → Prop) (h : mmH) (v1 : Int) (hy : ((h 282 50) ≤ v1 → rB d k_m_stands n0 z0 Q 15 [(3, 282), (1, 0)] [] h) ∧ (¬ ((h 282 50) ≤ v1) → mmD ((0 : Int) ≤ v1 ∧ v1 < ((3200 : Nat) : Int)) inferInstance (mmD ((0 : Int) ≤ (mAdd 1600 v1) ∧ (mAdd 1600 v1) < ((3200 : Nat) : Int)) inferInstance (rB d k_m_stands n0 z0 Q 13 [(3, 282), (1, (mAdd v1 1))] [] (mmS h 322 (mAdd 1600 v1) (h 322 v1)))))) : rB d k_m_stands n0 z0 Q 13 [(3, 282), (1, v1)] [] h :=
  rB_fold (cut := fun i => Nat.beq i 1 || Nat.beq i 3 || Nat.beq i 5 || Nat.beq i 7 || Nat.beq i 9 || Nat.beq i 11 || Nat.beq i 13 || Nat.beq i 15 || Nat.beq i 17 || Nat.beq i 19) (f := 40) hy
set_option maxRecDepth 100000 in
theorem T_m_stands_15 (d : Nat) (n0 z0 : Int) (Q : Int → mmH → Prop) (h : mmH) (v1 : Int) (hy : (210 ≤ v1 → rB d k_m_stands n0 z0 Q 17 [(3, 282), (1, 0)] [] h) ∧ (¬ (210 ≤ v1) → mmD ((0 : Int) ≤ v1 ∧ v1 < ((210 : Nat) : Int)) inferInstance (rB d k_m_stands n0 z0 Q 15 [(3, 282), (1, (mAdd v1 1))] [] (mmS h 329 v1 0)))) : rB d k_m_stands n0 z0 Q 15 [(3, 282), (1, v1)] [] h :=
  rB_fold (cut := fun i => Nat.beq i 1 || Nat.beq i 3 || Nat.beq i 5 || Nat.beq i 7 || Nat.beq i 9 || Nat.beq i 11 || Nat.beq i 13 || Nat.beq i 15 || Nat.beq i 17 || Nat.beq i 19) (f := 40) hy
set_option maxRecDepth 100000 in
theorem T_m_stands_17 (d : Nat) (n0 z0 : Int) (Q : Int → mmH → Prop) (h : mmH) (v1 : Int) (hy : ((h 313 1) ≤ v1 → rB d k_m_stands n0 z0 Q 19 [(3, 282), (1, 0)] [] h) ∧ (¬ ((h 313 1) ≤ v1) → mmD ((0 : Int) ≤ (mAdd (mMul 5 v1) 2) ∧ (mAdd (mMul 5 v1) 2) < ((100 : Nat) : Int)) inferInstance (mmD ((0 : Int) ≤ (mAdd 2 v1) ∧ (mAdd 2 v1) < ((210 : Nat) : Int)) inferInstance (rB d k_m_stands n0 z0 Q 17 [(3, 282), (1, (mAdd v1 1))] [] (mmS h 329 (mAdd 2 v1) (h 315 (mAdd (mMul 5 v1) 2))))))) : rB d k_m_stands n0 z0 Q 17 [(3, 282), (1, v1)] [] h :=
  rB_fold (cut := fun i => Nat.beq i 1 || Nat.beq i 3 || Nat.beq i 5 || Nat.beq i 7 || Nat.beq i 9 || Nat.beq i 11 || Nat.beq i 13 || Nat.beq i 15 || Nat.beq i 17 || Nat.beq i 19) (f := 40) hy
set_option maxRecDepth 100000 in
theorem T_m_stands_19 (d : Nat) (n0 z0 : Int) (Q : Int → mmH → Prop) (h : mmH) (v1 : Int) (hy : ((h 313 2) ≤ v1 → Q 0 (mmS h 282 67 0)) ∧ (¬ ((h 313 2) ≤ v1) → mmD ((0 : Int) ≤ (mAdd (mMul 6 v1) 4) ∧ (mAdd (mMul 6 v1) 4) < ((72 : Nat) : Int)) inferInstance (mmD ((0 : Int) ≤ (mAdd 12 (mMul 2 v1)) ∧ (mAdd 12 (mMul 2 v1)) < ((210 : Nat) : Int)) inferInstance (mmD ((0 : Int) ≤ (mAdd (mMul 6 v1) 5) ∧ (mAdd (mMul 6 v1) 5) < ((72 : Nat) : Int)) inferInstance (mmD ((0 : Int) ≤ (mAdd (mAdd 12 (mMul 2 v1)) 1) ∧ (mAdd (mAdd 12 (mMul 2 v1)) 1) < ((210 : Nat) : Int)) inferInstance (rB d k_m_stands n0 z0 Q 19 [(3, 282), (1, (mAdd v1 1))] [] (mmS (mmS h 329 (mAdd 12 (mMul 2 v1)) (h 317 (mAdd (mMul 6 v1) 4))) 329 (mAdd (mAdd 12 (mMul 2 v1)) 1) (h 317 (mAdd (mMul 6 v1) 5))))))))) : rB d k_m_stands n0 z0 Q 19 [(3, 282), (1, v1)] [] h :=
  rB_fold (cut := fun i => Nat.beq i 1 || Nat.beq i 3 || Nat.beq i 5 || Nat.beq i 7 || Nat.beq i 9 || Nat.beq i 11 || Nat.beq i 13 || Nat.beq i 15 || Nat.beq i 17 || Nat.beq i 19) (f := 40) hy
set_option maxRecDepth 100000 in
theorem T_m_fault_0 (d : Nat) (n0 z0 : Int) (Q : Int → mmH → Prop) (h : mmH) (a1 : Int) (hy : (a1 ≠ 0 → (a1 ≠ 1 → Q (-1) h) ∧ (¬ (a1 ≠ 1) → Q (h 282 8) h)) ∧ (¬ (a1 ≠ 0) → Q (h 282 7) h)) : rB d k_m_fault n0 z0 Q 0 [(3, 282), (1, a1)] [] h :=
  rB_fold (cut := fun i => false) (f := 40) hy
set_option maxRecDepth 100000 in
theorem T_m_has_0 (d : Nat) (n0 z0 : Int) (Q : Int → mmH → Prop) (h : mmH) (a1 : Int) (hy : ((a1 = 0 → rC d k_m_ownerMany [282] h (fun x6 h6 => Q x6 h6)) ∧ ((a1 = (0 + 1) → rC d k_m_lotMany [282] h (fun x5 h5 => Q x5 h5)) ∧ ((a1 = ((0 + 1) + 1) → Q (h 313 8) h) ∧ ((a1 = (((0 + 1) + 1) + 1) → rC d k_m_personMany [282] h (fun x4 h4 => Q x4 h4)) ∧ ((a1 = ((((0 + 1) + 1) + 1) + 1) → Q (h 313 9) h) ∧ ((a1 = (((((0 + 1) + 1) + 1) + 1) + 1) → ((h 318 1) ≠ 0 → Q (h 318 1) h) ∧ (¬ ((h 318 1) ≠ 0) → Q 5 h)) ∧ ((a1 = ((((((0 + 1) + 1) + 1) + 1) + 1) + 1) → Q (h 319 1) h) ∧ ((a1 = (((((((0 + 1) + 1) + 1) + 1) + 1) + 1) + 1) → Q (h 329 0) h) ∧ ((a1 = ((((((((0 + 1) + 1) + 1) + 1) + 1) + 1) + 1) + 1) → Q (h 329 1) h) ∧ ((a1 = (((((((((0 + 1) + 1) + 1) + 1) + 1) + 1) + 1) + 1) + 1) → rC d k_m_tilesAll [282] h (fun x3 h3 => Q x3 h3)) ∧ ((a1 = ((((((((((0 + 1) + 1) + 1) + 1) + 1) + 1) + 1) + 1) + 1) + 1) → rC d k_m_holes [282] h (fun x1 h1 => rC d k_m_bits [x1] h1 (fun x2 h2 => Q x2 h2))) ∧ ((a1 = (((((((((((0 + 1) + 1) + 1) + 1) + 1) + 1) + 1) + 1) + 1) + 1) + 1) → Q (h 329 29) h) ∧ ((a1 = ((((((((((((0 + 1) + 1) + 1) + 1) + 1) + 1) + 1) + 1) + 1) + 1) + 1) + 1) → Q (h 282 67) h) ∧ (True)))))))))))))) ∧ ((a1 < 0 ∨ 0 + ((13 : Nat) : Int) ≤ a1) → Q (-1) h)) : rB d k_m_has n0 z0 Q 0 [(3, 282), (1, a1)] [] h :=
  rB_fold (cut := fun i => false) (f := 40) hy
set_option maxRecDepth 100000 in
theorem T_m_ownerMany_0 (d : Nat) (n0 z0 : Int) (Q : Int → mmH → Prop) (h : mmH)  (hy : Q (h 313 5) h) : rB d k_m_ownerMany n0 z0 Q 0 [(3, 282)] [] h :=
  rB_fold (cut := fun i => false) (f := 40) hy
set_option maxRecDepth 100000 in
theorem T_m_lotMany_0 (d : Nat) (n0 z0 : Int) (Q : Int → mmH → Prop) (h : mmH)  (hy : Q (h 313 6) h) : rB d k_m_lotMany n0 z0 Q 0 [(3, 282)] [] h :=
  rB_fold (cut := fun i => false) (f := 40) hy
set_option maxRecDepth 100000 in
theorem T_m_personMany_0 (d : Nat) (n0 z0 : Int) (Q : Int → mmH → Prop) (h : mmH)  (hy : Q (h 313 7) h) : rB d k_m_personMany n0 z0 Q 0 [(3, 282)] [] h :=
  rB_fold (cut := fun i => false) (f := 40) hy
set_option maxRecDepth 100000 in
theorem T_m_tilesAll_0 (d : Nat) (n0 z0 : Int) (Q : Int → mmH → Prop) (h : mmH)  (hy : rB d k_m_tilesAll n0 z0 Q 1 [(3, 282), (1, 0), (1, 0)] [] h) : rB d k_m_tilesAll n0 z0 Q 0 [(3, 282), (0, 0), (0, 0)] [] h :=
  rB_fold (cut := fun i => Nat.beq i 1) (f := 40) hy
set_option maxRecDepth 100000 in
theorem T_m_tilesAll_1 (d : Nat) (n0 z0 : Int) (Q : Int → mmH → Prop) (h : mmH) (v1 : Int) (v2 : Int) (hy : rC d k_m_lotMany [282] h (fun x1 h1 => (x1 ≤ v2 → Q v1 h1) ∧ (¬ (x1 ≤ v2) → rC d k_m_tilesOf [282, v2] h1 (fun x2 h2 => rB d k_m_tilesAll n0 z0 Q 1 [(3, 282), (1, (mAdd v1 x2)), (1, (mAdd v2 1))] [] h2)))) : rB d k_m_tilesAll n0 z0 Q 1 [(3, 282), (1, v1), (1, v2)] [] h :=
  rB_fold (cut := fun i => Nat.beq i 1) (f := 40) hy
set_option maxRecDepth 100000 in
theorem T_m_tilesOf_0 (d : Nat) (n0 z0 : Int) (Q : Int → mmH → Prop) (h : mmH) (a1 : Int) (hy : mmD ((0 : Int) ≤ (mAdd 2 a1) ∧ (mAdd 2 a1) < ((210 : Nat) : Int)) inferInstance (Q (h 329 (mAdd 2 a1)) h)) : rB d k_m_tilesOf n0 z0 Q 0 [(3, 282), (1, a1)] [] h :=
  rB_fold (cut := fun i => false) (f := 40) hy
set_option maxRecDepth 100000 in
theorem T_m_holes_0 (d : Nat) (n0 z0 : Int) (Q : Int → mmH → Prop) (h : mmH)  (hy : rB d k_m_holes n0 z0 Q 1 [(3, 282), (1, 0), (1, 0)] [] h) : rB d k_m_holes n0 z0 Q 0 [(3, 282), (0, 0), (0, 0)] [] h :=
  rB_fold (cut := fun i => Nat.beq i 1) (f := 40) hy
set_option maxRecDepth 100000 in
theorem T_m_holes_1 (d : Nat) (n0 z0 : Int) (Q : Int → mmH → Prop) (h : mmH) (v1 : Int) (v2 : Int) (hy : rC d k_m_lotMany [282] h (fun x1 h1 => (x1 ≤ v2 → Q v1 h1) ∧ (¬ (x1 ≤ v2) → rC d k_m_tilesOf [282, v2] h1 (fun x2 h2 => (x2 ≠ 0 → rB d k_m_holes n0 z0 Q 1 [(3, 282), (1, v1), (1, (mAdd v2 1))] [] h2) ∧ (¬ (x2 ≠ 0) → rB d k_m_holes n0 z0 Q 1 [(3, 282), (1, (mOr v1 (mShl 1 v2))), (1, (mAdd v2 1))] [] h2))))) : rB d k_m_holes n0 z0 Q 1 [(3, 282), (1, v1), (1, v2)] [] h :=
  rB_fold (cut := fun i => Nat.beq i 1) (f := 40) hy
set_option maxRecDepth 100000 in
theorem T_m_bits_0 (d : Nat) (n0 z0 : Int) (Q : Int → mmH → Prop) (h : mmH) (a0 : Int) (hy : rB d k_m_bits n0 z0 Q 1 [(1, a0), (1, 0), (1, a0)] [] h) : rB d k_m_bits n0 z0 Q 0 [(1, a0), (0, 0), (0, 0)] [] h :=
  rB_fold (cut := fun i => Nat.beq i 1) (f := 40) hy
set_option maxRecDepth 100000 in
theorem T_m_bits_1 (d : Nat) (n0 z0 : Int) (Q : Int → mmH → Prop) (h : mmH) (v0 : Int) (v1 : Int) (v2 : Int) (hy : (v2 = 0 → Q v1 h) ∧ (¬ (v2 = 0) → rB d k_m_bits n0 z0 Q 1 [(1, v0), (1, (mAdd v1 1)), (1, (mAnd v2 (mSub v2 1)))] [] h)) : rB d k_m_bits n0 z0 Q 1 [(1, v0), (1, v1), (1, v2)] [] h :=
  rB_fold (cut := fun i => Nat.beq i 1) (f := 40) hy
set_option maxRecDepth 100000 in
theorem T_m_letter_0 (d : Nat) (n0 z0 : Int) (Q : Int → mmH → Prop) (h : mmH) (a1 : Int) (a2 : Int) (a3 : Int) (hy : rC d k_m_isIn [a1, 0, 2] h (fun x1 h1 => (x1 = 0 → Q (-1) h1) ∧ (¬ (x1 = 0) → mmD ((0 : Int) ≤ (mAdd 5 a1) ∧ (mAdd 5 a1) < ((10 : Nat) : Int)) inferInstance (rC d k_m_isIn [a2, 0, (mSub (h1 313 (mAdd 5 a1)) 1)] h1 (fun x2 h2 => (x2 = 0 → Q (-1) h2) ∧ (¬ (x2 = 0) → rC d k_m_isIn [a3, 0, 5] h2 (fun x3 h3 => (x3 ≠ 0 → mmD ((0 : Int) ≤ (mAdd (mAdd 30 (mMul 10 a1)) a2) ∧ (mAdd (mAdd 30 (mMul 10 a1)) a2) < ((60 : Nat) : Int)) inferInstance (rB d k_m_letter n0 z0 Q 3 [(3, 282), (1, a1), (1, a2), (1, a3), (2, (h3 314 (mAdd (mAdd 30 (mMul 10 a1)) a2))), (0, 0), (1, 0), (2, (h3 314 (mAdd (mAdd 30 (mMul 10 a1)) a2))), (0, 0)] [] h3)) ∧ (¬ (x3 ≠ 0) → Q (-1) h3)))))))) : rB d k_m_letter n0 z0 Q 0 [(3, 282), (1, a1), (1, a2), (1, a3), (0, 0), (0, 0), (0, 0), (0, 0), (0, 0)] [] h :=
  rB_fold (cut := fun i => Nat.beq i 3 || Nat.beq i 6) (f := 40) hy
set_option maxRecDepth 100000 in
theorem T_m_letter_3 (d : Nat) (n0 z0 : Int) (Q : Int → mmH → Prop) (h : mmH) (v1 : Int) (v2 : Int) (v3 : Int) (v4 : Int) (v6 : Int) (v7 : Int) (hy : ((mLcmp v7 0) ≤ 0 → (v3 < v6 → rB d k_m_letter n0 z0 Q 6 [(3, 282), (1, v1), (1, v2), (1, v3), (2, v4), (0, 0), (1, v6), (1, (mSub v6 1)), (0, 0)] [] h) ∧ (¬ (v3 < v6) → Q 0 h)) ∧ (¬ ((mLcmp v7 0) ≤ 0) → rB d k_m_letter n0 z0 Q 3 [(3, 282), (1, v1), (1, v2), (1, v3), (2, v4), (0, 0), (1, (mAdd v6 1)), (2, (nDiv v7 27)), (0, 0)] [] h)) : rB d k_m_letter n0 z0 Q 3 [(3, 282), (1, v1), (1, v2), (1, v3), (2, v4), (0, 0), (1, v6), (2, v7), (0, 0)] [] h :=
  rB_fold (cut := fun i => Nat.beq i 3 || Nat.beq i 6) (f := 40) hy
set_option maxRecDepth 100000 in
theorem T_m_letter_6 (d : Nat) (n0 z0 : Int) (Q : Int → mmH → Prop) (h : mmH) (v1 : Int) (v2 : Int) (v3 : Int) (v4 : Int) (v6 : Int) (v7 : Int) (hy : (v7 ≤ v3 → Q (mL2i (nRem v4 27)) h) ∧ (¬ (v7 ≤ v3) → rB d k_m_letter n0 z0 Q 6 [(3, 282), (1, v1), (1, v2), (1, v3), (2, (nDiv v4 27)), (0, 0), (1, v6), (1, (mAdd v7 (-1))), (0, 0)] [] h)) : rB d k_m_letter n0 z0 Q 6 [(3, 282), (1, v1), (1, v2), (1, v3), (2, v4), (0, 0), (1, v6), (1, v7), (0, 0)] [] h :=
  rB_fold (cut := fun i => Nat.beq i 3 || Nat.beq i 6) (f := 40) hy
set_option maxRecDepth 100000 in
theorem T_m_lot_0 (d : Nat) (n0 z0 : Int) (Q : Int → mmH → Prop) (h : mmH) (a1 : Int) (a2 : Int) (hy : rC d k_m_isLot [282, a1] h (fun x1 h1 => (x1 ≠ 0 → ((a2 = 0 → rC d k_m_ownerOf [282, a1] h1 (fun x10 h10 => Q x10 h10)) ∧ ((a2 = (0 + 1) → rC d k_m_heightOf [282, a1] h1 (fun x9 h9 => Q x9 h9)) ∧ ((a2 = ((0 + 1) + 1) → rC d k_m_tilesOf [282, a1] h1 (fun x8 h8 => Q x8 h8)) ∧ ((a2 = (((0 + 1) + 1) + 1) → rC d k_m_bedsOf [282, a1] h1 (fun x7 h7 => Q x7 h7)) ∧ ((a2 = ((((0 + 1) + 1) + 1) + 1) → rC d k_m_hasStork [282, a1] h1 (fun x6 h6 => (x6 = 0 → Q 0 h6) ∧ (¬ (x6 = 0) → Q 1 h6))) ∧ ((a2 = (((((0 + 1) + 1) + 1) + 1) + 1) → rC d k_m_thereAt [282, a1] h1 (fun x5 h5 => Q x5 h5)) ∧ ((a2 = ((((((0 + 1) + 1) + 1) + 1) + 1) + 1) → rC d k_m_bedsOf [282, a1] h1 (fun x2 h2 => (x2 ≤ 0 → Q 0 h2) ∧ (¬ (x2 ≤ 0) → rC d k_m_thereAt [282, a1] h2 (fun x3 h3 => rC d k_m_bedsOf [282, a1] h3 (fun x4 h4 => (x3 < x4 → Q 0 h4) ∧ (¬ (x3 < x4) → Q 1 h4)))))) ∧ (True)))))))) ∧ ((a2 < 0 ∨ 0 + ((7 : Nat) : Int) ≤ a2) → Q (-1) h1)) ∧ (¬ (x1 ≠ 0) → Q (-1) h1))) : rB d k_m_lot n0 z0 Q 0 [(3, 282), (1, a1), (1, a2)] [] h :=
  rB_fold (cut := fun i => false) (f := 40) hy
set_option maxRecDepth 100000 in
theorem T_m_isLot_0 (d : Nat) (n0 z0 : Int) (Q : Int → mmH → Prop) (h : mmH) (a1 : Int) (hy : rC d k_m_lotMany [282] h (fun x1 h1 => rC d k_m_isIn [a1, 0, (mSub x1 1)] h1 (fun x2 h2 => mmG (decide (x2 = 0 ∨ x2 = 1)) (Q x2 h2)))) : rB d k_m_isLot n0 z0 Q 0 [(3, 282), (1, a1)] [] h :=
  rB_fold (cut := fun i => false) (f := 40) hy
set_option maxRecDepth 100000 in
theorem T_m_ownerOf_0 (d : Nat) (n0 z0 : Int) (Q : Int → mmH → Prop) (h : mmH) (a1 : Int) (hy : mmD ((0 : Int) ≤ (mAdd 50 (mMul 5 a1)) ∧ (mAdd 50 (mMul 5 a1)) < ((100 : Nat) : Int)) inferInstance (Q (h 315 (mAdd 50 (mMul 5 a1))) h)) : rB d k_m_ownerOf n0 z0 Q 0 [(3, 282), (1, a1)] [] h :=
  rB_fold (cut := fun i => false) (f := 40) hy
set_option maxRecDepth 100000 in
theorem T_m_heightOf_0 (d : Nat) (n0 z0 : Int) (Q : Int → mmH → Prop) (h : mmH) (a1 : Int) (hy : mmD ((0 : Int) ≤ (mAdd (mAdd 50 (mMul 5 a1)) 1) ∧ (mAdd (mAdd 50 (mMul 5 a1)) 1) < ((100 : Nat) : Int)) inferInstance (Q (h 315 (mAdd (mAdd 50 (mMul 5 a1)) 1)) h)) : rB d k_m_heightOf n0 z0 Q 0 [(3, 282), (1, a1)] [] h :=
  rB_fold (cut := fun i => false) (f := 40) hy
set_option maxRecDepth 100000 in
theorem T_m_bedsOf_0 (d : Nat) (n0 z0 : Int) (Q : Int → mmH → Prop) (h : mmH) (a1 : Int) (hy : mmD ((0 : Int) ≤ (mAdd (mAdd 50 (mMul 5 a1)) 3) ∧ (mAdd (mAdd 50 (mMul 5 a1)) 3) < ((100 : Nat) : Int)) inferInstance (Q (h 315 (mAdd (mAdd 50 (mMul 5 a1)) 3)) h)) : rB d k_m_bedsOf n0 z0 Q 0 [(3, 282), (1, a1)] [] h :=
  rB_fold (cut := fun i => false) (f := 40) hy
set_option maxRecDepth 100000 in
theorem T_m_hasStork_0 (d : Nat) (n0 z0 : Int) (Q : Int → mmH → Prop) (h : mmH) (a1 : Int) (hy : mmD ((0 : Int) ≤ (mAdd (mAdd 50 (mMul 5 a1)) 4) ∧ (mAdd (mAdd 50 (mMul 5 a1)) 4) < ((100 : Nat) : Int)) inferInstance (((h 315 (mAdd (mAdd 50 (mMul 5 a1)) 4)) ≠ 1 → Q 0 h) ∧ (¬ ((h 315 (mAdd (mAdd 50 (mMul 5 a1)) 4)) ≠ 1) → Q 1 h))) : rB d k_m_hasStork n0 z0 Q 0 [(3, 282), (1, a1)] [] h :=
  rB_fold (cut := fun i => false) (f := 40) hy
set_option maxRecDepth 100000 in
theorem T_m_thereAt_0 (d : Nat) (n0 z0 : Int) (Q : Int → mmH → Prop) (h : mmH) (a1 : Int) (hy : rB d k_m_thereAt n0 z0 Q 1 [(3, 282), (1, a1), (1, 0), (1, 0)] [] h) : rB d k_m_thereAt n0 z0 Q 0 [(3, 282), (1, a1), (0, 0), (0, 0)] [] h :=
  rB_fold (cut := fun i => Nat.beq i 1) (f := 40) hy
set_option maxRecDepth 100000 in
theorem T_m_thereAt_1 (d : Nat) (n0 z0 : Int) (Q : Int → mmH → Prop) (h : mmH) (v1 : Int) (v2 : Int) (v3 : Int) (hy : rC d k_m_personMany [282] h (fun x1 h1 => (x1 ≤ v3 → Q v2 h1) ∧ (¬ (x1 ≤ v3) → rC d k_m_placeOf [282, v3] h1 (fun x2 h2 => (x2 ≠ v1 → rB d k_m_thereAt n0 z0 Q 1 [(3, 282), (1, v1), (1, v2), (1, (mAdd v3 1))] [] h2) ∧ (¬ (x2 ≠ v1) → rB d k_m_thereAt n0 z0 Q 1 [(3, 282), (1, v1), (1, (mAdd v2 1)), (1, (mAdd v3 1))] [] h2))))) : rB d k_m_thereAt n0 z0 Q 1 [(3, 282), (1, v1), (1, v2), (1, v3)] [] h :=
  rB_fold (cut := fun i => Nat.beq i 1) (f := 40) hy
set_option maxRecDepth 100000 in
theorem T_m_placeOf_0 (d : Nat) (n0 z0 : Int) (Q : Int → mmH → Prop) (h : mmH) (a1 : Int) (hy : mmD ((0 : Int) ≤ (mAdd 12 (mMul 2 a1)) ∧ (mAdd 12 (mMul 2 a1)) < ((210 : Nat) : Int)) inferInstance (Q (h 329 (mAdd 12 (mMul 2 a1))) h)) : rB d k_m_placeOf n0 z0 Q 0 [(3, 282), (1, a1)] [] h :=
  rB_fold (cut := fun i => false) (f := 40) hy
set_option maxRecDepth 100000 in
theorem T_m_gap_0 (d : Nat) (n0 z0 : Int) (Q : Int → mmH → Prop) (h : mmH) (a1 : Int) (a2 : Int) (hy : rC d k_m_isLot [282, a1] h (fun x1 h1 => (x1 = 0 → Q (-1) h1) ∧ (¬ (x1 = 0) → rC d k_m_isLot [282, a2] h1 (fun x2 h2 => (x2 = 0 → Q (-1) h2) ∧ (¬ (x2 = 0) → mmD ((0 : Int) ≤ (mAdd (mAdd 100 (mMul 10 a1)) a2) ∧ (mAdd (mAdd 100 (mMul 10 a1)) a2) < ((200 : Nat) : Int)) inferInstance (Q (mSub (h2 316 (mAdd (mAdd 100 (mMul 10 a1)) a2)) 1) h2)))))) : rB d k_m_gap n0 z0 Q 0 [(3, 282), (1, a1), (1, a2)] [] h :=
  rB_fold (cut := fun i => false) (f := 40) hy
set_option maxRecDepth 100000 in
theorem T_m_person_0 (d : Nat) (n0 z0 : Int) (Q : Int → mmH → Prop) (h : mmH) (a1 : Int) (a2 : Int) (hy : rC d k_m_isPerson [282, a1] h (fun x1 h1 => (x1 ≠ 0 → ((a2 = 0 → rC d k_m_personOf [282, a1, a2] h1 (fun x8 h8 => Q x8 h8)) ∧ ((a2 = (0 + 1) → rC d k_m_personOf [282, a1, a2] h1 (fun x7 h7 => Q x7 h7)) ∧ ((a2 = ((0 + 1) + 1) → rC d k_m_personOf [282, a1, a2] h1 (fun x6 h6 => Q x6 h6)) ∧ ((a2 = (((0 + 1) + 1) + 1) → rC d k_m_personOf [282, a1, a2] h1 (fun x5 h5 => Q x5 h5)) ∧ ((a2 = ((((0 + 1) + 1) + 1) + 1) → rC d k_m_placeOf [282, a1] h1 (fun x4 h4 => Q x4 h4)) ∧ ((a2 = (((((0 + 1) + 1) + 1) + 1) + 1) → rC d k_m_goalOf [282, a1] h1 (fun x3 h3 => Q x3 h3)) ∧ ((a2 = ((((((0 + 1) + 1) + 1) + 1) + 1) + 1) → rC d k_m_ledTo [282, a1] h1 (fun x2 h2 => Q x2 h2)) ∧ (True)))))))) ∧ ((a2 < 0 ∨ 0 + ((7 : Nat) : Int) ≤ a2) → Q (-1) h1)) ∧ (¬ (x1 ≠ 0) → Q (-1) h1))) : rB d k_m_person n0 z0 Q 0 [(3, 282), (1, a1), (1, a2)] [] h :=
  rB_fold (cut := fun i => false) (f := 40) hy
set_option maxRecDepth 100000 in
theorem T_m_isPerson_0 (d : Nat) (n0 z0 : Int) (Q : Int → mmH → Prop) (h : mmH) (a1 : Int) (hy : rC d k_m_personMany [282] h (fun x1 h1 => rC d k_m_isIn [a1, 0, (mSub x1 1)] h1 (fun x2 h2 => mmG (decide (x2 = 0 ∨ x2 = 1)) (Q x2 h2)))) : rB d k_m_isPerson n0 z0 Q 0 [(3, 282), (1, a1)] [] h :=
  rB_fold (cut := fun i => false) (f := 40) hy
set_option maxRecDepth 100000 in
theorem T_m_personOf_0 (d : Nat) (n0 z0 : Int) (Q : Int → mmH → Prop) (h : mmH) (a1 : Int) (a2 : Int) (hy : mmD ((0 : Int) ≤ (mAdd (mAdd 36 (mMul 6 a1)) a2) ∧ (mAdd (mAdd 36 (mMul 6 a1)) a2) < ((72 : Nat) : Int)) inferInstance (Q (h 317 (mAdd (mAdd 36 (mMul 6 a1)) a2)) h)) : rB d k_m_personOf n0 z0 Q 0 [(3, 282), (1, a1), (1, a2)] [] h :=
  rB_fold (cut := fun i => false) (f := 40) hy
set_option maxRecDepth 100000 in
theorem T_m_goalOf_0 (d : Nat) (n0 z0 : Int) (Q : Int → mmH → Prop) (h : mmH) (a1 : Int) (hy : mmD ((0 : Int) ≤ (mAdd (mAdd 12 (mMul 2 a1)) 1) ∧ (mAdd (mAdd 12 (mMul 2 a1)) 1) < ((210 : Nat) : Int)) inferInstance (Q (h 329 (mAdd (mAdd 12 (mMul 2 a1)) 1)) h)) : rB d k_m_goalOf n0 z0 Q 0 [(3, 282), (1, a1)] [] h :=
  rB_fold (cut := fun i => false) (f := 40) hy
set_option maxRecDepth 100000 in
theorem T_m_ledTo_0 (d : Nat) (n0 z0 : Int) (Q : Int → mmH → Prop) (h : mmH) (a1 : Int) (hy : rB d k_m_ledTo n0 z0 Q 1 [(3, 282), (1, a1), (1, 0), (1, 0)] [] h) : rB d k_m_ledTo n0 z0 Q 0 [(3, 282), (1, a1), (0, 0), (0, 0)] [] h :=
  rB_fold (cut := fun i => Nat.beq i 1) (f := 40) hy
set_option maxRecDepth 100000 in
theorem T_m_ledTo_1 (d : Nat) (n0 z0 : Int) (Q : Int → mmH → Prop) (h : mmH) (v1 : Int) (v2 : Int) (v3 : Int) (hy : ((h 329 29) ≤ v3 → Q v2 h) ∧ (¬ ((h 329 29) ≤ v3) → mmD ((0 : Int) ≤ (mAdd (mAdd 30 (mMul 3 v3)) 2) ∧ (mAdd (mAdd 30 (mMul 3 v3)) 2) < ((210 : Nat) : Int)) inferInstance (((h 329 (mAdd (mAdd 30 (mMul 3 v3)) 2)) ≠ v1 → rB d k_m_ledTo n0 z0 Q 1 [(3, 282), (1, v1), (1, v2), (1, (mAdd v3 1))] [] h) ∧ (¬ ((h 329 (mAdd (mAdd 30 (mMul 3 v3)) 2)) ≠ v1) → rB d k_m_ledTo n0 z0 Q 1 [(3, 282), (1, v1), (1, (mAdd v2 1)), (1, (mAdd v3 1))] [] h)))) : rB d k_m_ledTo n0 z0 Q 1 [(3, 282), (1, v1), (1, v2), (1, v3)] [] h :=
  rB_fold (cut := fun i => Nat.beq i 1) (f := 40) hy
set_option maxRecDepth 100000 in
theorem T_m_purse_0 (d : Nat) (n0 z0 : Int) (Q : Int → mmH → Prop) (h : mmH) (a1 : Int) (hy : rC d k_m_ownerMany [282] h (fun x1 h1 => rC d k_m_isIn [a1, 0, (mSub x1 1)] h1 (fun x2 h2 => (x2 = 0 → Q (-1000000000) h2) ∧ (¬ (x2 = 0) → mmD ((0 : Int) ≤ (mAdd 24 a1) ∧ (mAdd 24 a1) < ((210 : Nat) : Int)) inferInstance (Q (h2 329 (mAdd 24 a1)) h2))))) : rB d k_m_purse n0 z0 Q 0 [(3, 282), (1, a1)] [] h :=
  rB_fold (cut := fun i => false) (f := 40) hy
set_option maxRecDepth 100000 in
theorem T_m_toll_0 (d : Nat) (n0 z0 : Int) (Q : Int → mmH → Prop) (h : mmH) (a1 : Int) (a2 : Int) (hy : rC d k_m_isPerson [282, a1] h (fun x1 h1 => (x1 = 0 → Q (-2) h1) ∧ (¬ (x1 = 0) → rC d k_m_isLot [282, a2] h1 (fun x2 h2 => (x2 = 0 → Q (-2) h2) ∧ (¬ (x2 = 0) → rC d k_m_tilesOf [282, a2] h2 (fun x3 h3 => rC d k_m_tollOf [282, a1, a2, x3] h3 (fun x4 h4 => Q x4 h4))))))) : rB d k_m_toll n0 z0 Q 0 [(3, 282), (1, a1), (1, a2)] [] h :=
  rB_fold (cut := fun i => false) (f := 40) hy
set_option maxRecDepth 100000 in
theorem T_m_tollOf_0 (d : Nat) (n0 z0 : Int) (Q : Int → mmH → Prop) (h : mmH) (a1 : Int) (a2 : Int) (a3 : Int) (hy : ((h 329 1) ≤ 0 → rC d k_m_personOf [282, a1, 0] h (fun x1 h1 => rC d k_m_personOf [282, a1, 3] (mmS h1 328 0 x1) (fun x2 h2 => rC d k_m_heightOf [282, a2] (mmS h2 328 1 x2) (fun x3 h3 => rB d k_m_tollOf n0 z0 Q 2 [(3, 282), (1, a1), (1, a2), (1, a3), (1, (-1)), (1, 8), (0, 0), (0, 0), (0, 0)] [] (mmS (mmS (mmS h3 328 2 x3) 328 3 a3) 328 4 (h3 329 0)))))) ∧ (¬ ((h 329 1) ≤ 0) → Q 0 h)) : rB d k_m_tollOf n0 z0 Q 0 [(3, 282), (1, a1), (1, a2), (1, a3), (0, 0), (0, 0), (0, 0), (0, 0), (0, 0)] [] h :=
  rB_fold (cut := fun i => Nat.beq i 2 || Nat.beq i 4 || Nat.beq i 5) (f := 40) hy
set_option maxRecDepth 100000 in
theorem T_m_tollOf_2 (d : Nat) (n0 z0 : Int) (Q : Int → mmH → Prop) (h : mmH) (v1 : Int) (v2 : Int) (v3 : Int) (v4 : Int) (v5 : Int) (w6 : mmV) (w7 : mmV) (hy : ((mAdd 8 (h 313 9)) ≤ v5 → (v4 ≠ (-1) → Q v4 h) ∧ (¬ (v4 ≠ (-1)) → Q 0 h)) ∧ (¬ ((mAdd 8 (h 313 9)) ≤ v5) → mmD ((0 : Int) ≤ v5 ∧ v5 < ((16 : Nat) : Int)) inferInstance (((h 321 v5) ≠ 1 → rB d k_m_tollOf n0 z0 Q 4 [(3, 282), (1, v1), (1, v2), (1, v3), (1, v4), (1, v5), w6, w7, (0, 0)] [(1, 0)] h) ∧ (¬ ((h 321 v5) ≠ 1) → rB d k_m_tollOf n0 z0 Q 4 [(3, 282), (1, v1), (1, v2), (1, v3), (1, v4), (1, v5), w6, w7, (0, 0)] [(1, 1)] h)))) : rB d k_m_tollOf n0 z0 Q 2 [(3, 282), (1, v1), (1, v2), (1, v3), (1, v4), (1, v5), w6, w7, (0, 0)] [] h :=
  rB_fold (cut := fun i => Nat.beq i 2 || Nat.beq i 4 || Nat.beq i 5) (f := 40) hy
set_option maxRecDepth 100000 in
theorem T_m_tollOf_4 (d : Nat) (n0 z0 : Int) (Q : Int → mmH → Prop) (h : mmH) (v1 : Int) (v2 : Int) (v3 : Int) (v4 : Int) (v5 : Int) (w6 : mmV) (w7 : mmV) (s0 : Int) (hy : mmD ((0 : Int) ≤ v5 ∧ v5 < ((16 : Nat) : Int)) inferInstance (rC d k_m_ownerOf [282, v2] h (fun x1 h1 => ((h 320 v5) ≠ x1 → rB d k_m_tollOf n0 z0 Q 2 [(3, 282), (1, v1), (1, v2), (1, v3), (1, v4), (1, (mAdd v5 1)), (1, s0), w7, (0, 0)] [] h1) ∧ (¬ ((h 320 v5) ≠ x1) → (s0 ≠ 0 → rB d k_m_tollOf n0 z0 Q 5 [(3, 282), (1, v1), (1, v2), (1, v3), (1, v4), (1, v5), (1, s0), w7, (0, 0)] [] h1) ∧ (¬ (s0 ≠ 0) → (v4 ≠ (-1) → rB d k_m_tollOf n0 z0 Q 2 [(3, 282), (1, v1), (1, v2), (1, v3), (1, v4), (1, (mAdd v5 1)), (1, s0), w7, (0, 0)] [] h1) ∧ (¬ (v4 ≠ (-1)) → rB d k_m_tollOf n0 z0 Q 5 [(3, 282), (1, v1), (1, v2), (1, v3), (1, v4), (1, v5), (1, s0), w7, (0, 0)] [] h1)))))) : rB d k_m_tollOf n0 z0 Q 4 [(3, 282), (1, v1), (1, v2), (1, v3), (1, v4), (1, v5), w6, w7, (0, 0)] [(1, s0)] h :=
  rB_fold (cut := fun i => Nat.beq i 2 || Nat.beq i 4 || Nat.beq i 5) (f := 40) hy
set_option maxRecDepth 100000 in
theorem T_m_tollOf_5 (d : Nat) (n0 z0 : Int) (Q : Int → mmH → Prop) (h : mmH) (v1 : Int) (v2 : Int) (v3 : Int) (v4 : Int) (v5 : Int) (v6 : Int) (w7 : mmV) (hy : mmD ((0 : Int) ≤ v5 ∧ v5 < ((16 : Nat) : Int)) inferInstance (mmD ((0 : Int) ≤ v5 ∧ v5 < ((16 : Nat) : Int)) inferInstance (rC d k_m_told [282, (h 325 v5), (h 326 v5)] h (fun x1 h1 => ((mLcmp x1 1) = 0 → (v6 = 0 → mmD ((0 : Int) ≤ v5 ∧ v5 < ((16 : Nat) : Int)) inferInstance (mmD ((0 : Int) ≤ v5 ∧ v5 < ((16 : Nat) : Int)) inferInstance (rC d k_m_told [282, (h1 324 v5), (h1 325 v5)] h1 (fun x2 h2 => (0 ≤ (mLcmp x2 0) → ((mLcmp x2 999) ≤ 0 → rB d k_m_tollOf n0 z0 Q 2 [(3, 282), (1, v1), (1, v2), (1, v3), (1, (mL2i x2)), (1, (mAdd v5 1)), (1, v6), (2, x2), (0, 0)] [] h2) ∧ (¬ ((mLcmp x2 999) ≤ 0) → rB d k_m_tollOf n0 z0 Q 2 [(3, 282), (1, v1), (1, v2), (1, v3), (1, 999), (1, (mAdd v5 1)), (1, v6), (2, x2), (0, 0)] [] h2)) ∧ (¬ (0 ≤ (mLcmp x2 0)) → rB d k_m_tollOf n0 z0 Q 2 [(3, 282), (1, v1), (1, v2), (1, v3), (1, 0), (1, (mAdd v5 1)), (1, v6), (2, x2), (0, 0)] [] h2))))) ∧ (¬ (v6 = 0) → Q (-1) h1)) ∧ (¬ ((mLcmp x1 1) = 0) → rB d k_m_tollOf n0 z0 Q 2 [(3, 282), (1, v1), (1, v2), (1, v3), (1, v4), (1, (mAdd v5 1)), (1, v6), w7, (0, 0)] [] h1))))) : rB d k_m_tollOf n0 z0 Q 5 [(3, 282), (1, v1), (1, v2), (1, v3), (1, v4), (1, v5), (1, v6), w7, (0, 0)] [] h :=
  rB_fold (cut := fun i => Nat.beq i 2 || Nat.beq i 4 || Nat.beq i 5) (f := 40) hy
set_option maxRecDepth 100000 in
theorem T_m_told_0 (d : Nat) (n0 z0 : Int) (Q : Int → mmH → Prop) (h : mmH) (a1 : Int) (a2 : Int) (hy : rB d k_m_told n0 z0 Q 1 [(3, 282), (1, a1), (1, a2), (1, a1), (0, 0)] [] (mmS h 282 59 0)) : rB d k_m_told n0 z0 Q 0 [(3, 282), (1, a1), (1, a2), (0, 0), (0, 0)] [] h :=
  rB_fold (cut := fun i => Nat.beq i 1) (f := 40) hy
set_option maxRecDepth 100000 in
theorem T_m_told_1 (d : Nat) (n0 z0 : Int) (Q : Int → mmH → Prop) (h : mmH) (v1 : Int) (v2 : Int) (v3 : Int) (w4 : mmV) (hy : (v2 ≤ v3 → Q (h 327 0) h) ∧ (¬ (v2 ≤ v3) → mmD ((0 : Int) ≤ (mAdd 1600 v3) ∧ (mAdd 1600 v3) < ((3200 : Nat) : Int)) inferInstance (((h 322 (mAdd 1600 v3)) < 1000 → ((h 322 (mAdd 1600 v3)) ≠ 18 → ((h 322 (mAdd 1600 v3)) ≠ 17 → rC d k_m_isIn [(h 322 (mAdd 1600 v3)), 7, 11] h (fun x1 h1 => (x1 = 0 → rC d k_m_joins [282, (h 322 (mAdd 1600 v3))] h1 (fun x2 h2 => rB d k_m_told n0 z0 Q 1 [(3, 282), (1, v1), (1, v2), (1, (mAdd v3 1)), (1, (h 322 (mAdd 1600 v3)))] [] h2)) ∧ (¬ (x1 = 0) → mmD ((0 : Int) ≤ (mSub (h 322 (mAdd 1600 v3)) 7) ∧ (mSub (h 322 (mAdd 1600 v3)) 7) < ((5 : Nat) : Int)) inferInstance (rC d k_m_puts [282, (h1 328 (mSub (h 322 (mAdd 1600 v3)) 7))] h1 (fun x3 h3 => rB d k_m_told n0 z0 Q 1 [(3, 282), (1, v1), (1, v2), (1, (mAdd v3 1)), (1, (h 322 (mAdd 1600 v3)))] [] h3))))) ∧ (¬ ((h 322 (mAdd 1600 v3)) ≠ 17) → mmD ((0 : Int) ≤ (mSub (h 282 59) 1) ∧ (mSub (h 282 59) 1) < ((1700 : Nat) : Int)) inferInstance (mmD ((0 : Int) ≤ (mSub (h 282 59) 1) ∧ (mSub (h 282 59) 1) < ((1700 : Nat) : Int)) inferInstance (rB d k_m_told n0 z0 Q 1 [(3, 282), (1, v1), (1, v2), (1, (mAdd v3 1)), (1, (h 322 (mAdd 1600 v3)))] [] (mmS h 327 (mSub (h 282 59) 1) (nSub 1 (h 327 (mSub (h 282 59) 1)))))))) ∧ (¬ ((h 322 (mAdd 1600 v3)) ≠ 18) → rC d k_m_puts [282, 1] h (fun x4 h4 => rB d k_m_told n0 z0 Q 1 [(3, 282), (1, v1), (1, v2), (1, (mAdd v3 1)), (1, (h 322 (mAdd 1600 v3)))] [] h4))) ∧ (¬ ((h 322 (mAdd 1600 v3)) < 1000) → rC d k_m_puts [282, (mSub (h 322 (mAdd 1600 v3)) 1000)] h (fun x5 h5 => rB d k_m_told n0 z0 Q 1 [(3, 282), (1, v1), (1, v2), (1, (mAdd v3 1)), (1, (h 322 (mAdd 1600 v3)))] [] h5))))) : rB d k_m_told n0 z0 Q 1 [(3, 282), (1, v1), (1, v2), (1, v3), w4] [] h :=
  rB_fold (cut := fun i => Nat.beq i 1) (f := 40) hy
set_option maxRecDepth 100000 in
theorem T_m_puts_0 (d : Nat) (n0 z0 : Int) (Q : Int → mmH → Prop) (h : mmH) (a1 : Int) (hy : mmD ((0 : Int) ≤ (h 282 59) ∧ (h 282 59) < ((1700 : Nat) : Int)) inferInstance (Q 0 (mmS (mmS h 327 (h 282 59) a1) 282 59 (mAdd (h 282 59) 1)))) : rB d k_m_puts n0 z0 Q 0 [(3, 282), (2, a1), (0, 0)] [] h :=
  rB_fold (cut := fun i => false) (f := 40) hy
set_option maxRecDepth 100000 in
theorem T_m_joins_0 (d : Nat) (n0 z0 : Int) (Q : Int → mmH → Prop) (h : mmH) (a1 : Int) (hy : mmD ((0 : Int) ≤ (mSub (h 282 59) 1) ∧ (mSub (h 282 59) 1) < ((1700 : Nat) : Int)) inferInstance (mmD ((0 : Int) ≤ (mSub (h 282 59) 2) ∧ (mSub (h 282 59) 2) < ((1700 : Nat) : Int)) inferInstance (((a1 = 1 → rC d k_m_clip [(nAdd (h 327 (mSub (h 282 59) 2)) (h 327 (mSub (h 282 59) 1)))] (mmS h 282 59 (mSub (h 282 59) 2)) (fun x18 h18 => rC d k_m_puts [282, x18] h18 (fun x19 h19 => Q 0 h19))) ∧ ((a1 = (1 + 1) → rC d k_m_clip [(nSub (h 327 (mSub (h 282 59) 2)) (h 327 (mSub (h 282 59) 1)))] (mmS h 282 59 (mSub (h 282 59) 2)) (fun x16 h16 => rC d k_m_puts [282, x16] h16 (fun x17 h17 => Q 0 h17))) ∧ ((a1 = ((1 + 1) + 1) → rC d k_m_clip [(nMul (h 327 (mSub (h 282 59) 2)) (h 327 (mSub (h 282 59) 1)))] (mmS h 282 59 (mSub (h 282 59) 2)) (fun x14 h14 => rC d k_m_puts [282, x14] h14 (fun x15 h15 => Q 0 h15))) ∧ ((a1 = (((1 + 1) + 1) + 1) → rC d k_m_floor [(h 327 (mSub (h 282 59) 2)), (h 327 (mSub (h 282 59) 1))] (mmS h 282 59 (mSub (h 282 59) 2)) (fun x12 h12 => rC d k_m_puts [282, x12] h12 (fun x13 h13 => Q 0 h13))) ∧ ((a1 = ((((1 + 1) + 1) + 1) + 1) → (0 ≤ (mLcmp (h 327 (mSub (h 282 59) 2)) (h 327 (mSub (h 282 59) 1))) → rC d k_m_puts [282, (h 327 (mSub (h 282 59) 1))] (mmS h 282 59 (mSub (h 282 59) 2)) (fun x10 h10 => Q 0 h10)) ∧ (¬ (0 ≤ (mLcmp (h 327 (mSub (h 282 59) 2)) (h 327 (mSub (h 282 59) 1)))) → rC d k_m_puts [282, (h 327 (mSub (h 282 59) 2))] (mmS h 282 59 (mSub (h 282 59) 2)) (fun x11 h11 => Q 0 h11))) ∧ ((a1 = (((((1 + 1) + 1) + 1) + 1) + 1) → ((mLcmp (h 327 (mSub (h 282 59) 2)) (h 327 (mSub (h 282 59) 1))) ≤ 0 → rC d k_m_puts [282, (h 327 (mSub (h 282 59) 1))] (mmS h 282 59 (mSub (h 282 59) 2)) (fun x8 h8 => Q 0 h8)) ∧ (¬ ((mLcmp (h 327 (mSub (h 282 59) 2)) (h 327 (mSub (h 282 59) 1))) ≤ 0) → rC d k_m_puts [282, (h 327 (mSub (h 282 59) 2))] (mmS h 282 59 (mSub (h 282 59) 2)) (fun x9 h9 => Q 0 h9))) ∧ ((a1 = ((((((1 + 1) + 1) + 1) + 1) + 1) + 1) → rB d k_m_joins n0 z0 Q 21 [(3, 282), (1, a1), (2, (h 327 (mSub (h 282 59) 1))), (0, 0), (2, (h 327 (mSub (h 282 59) 2))), (0, 0)] [] (mmS h 282 59 (mSub (h 282 59) 2))) ∧ ((a1 = (((((((1 + 1) + 1) + 1) + 1) + 1) + 1) + 1) → rB d k_m_joins n0 z0 Q 21 [(3, 282), (1, a1), (2, (h 327 (mSub (h 282 59) 1))), (0, 0), (2, (h 327 (mSub (h 282 59) 2))), (0, 0)] [] (mmS h 282 59 (mSub (h 282 59) 2))) ∧ ((a1 = ((((((((1 + 1) + 1) + 1) + 1) + 1) + 1) + 1) + 1) → rB d k_m_joins n0 z0 Q 21 [(3, 282), (1, a1), (2, (h 327 (mSub (h 282 59) 1))), (0, 0), (2, (h 327 (mSub (h 282 59) 2))), (0, 0)] [] (mmS h 282 59 (mSub (h 282 59) 2))) ∧ ((a1 = (((((((((1 + 1) + 1) + 1) + 1) + 1) + 1) + 1) + 1) + 1) → rB d k_m_joins n0 z0 Q 21 [(3, 282), (1, a1), (2, (h 327 (mSub (h 282 59) 1))), (0, 0), (2, (h 327 (mSub (h 282 59) 2))), (0, 0)] [] (mmS h 282 59 (mSub (h 282 59) 2))) ∧ ((a1 = ((((((((((1 + 1) + 1) + 1) + 1) + 1) + 1) + 1) + 1) + 1) + 1) → rB d k_m_joins n0 z0 Q 21 [(3, 282), (1, a1), (2, (h 327 (mSub (h 282 59) 1))), (0, 0), (2, (h 327 (mSub (h 282 59) 2))), (0, 0)] [] (mmS h 282 59 (mSub (h 282 59) 2))) ∧ ((a1 = (((((((((((1 + 1) + 1) + 1) + 1) + 1) + 1) + 1) + 1) + 1) + 1) + 1) → (0 ≤ (mLcmp (h 327 (mSub (h 282 59) 2)) (h 327 (mSub (h 282 59) 1))) → rC d k_m_puts [282, 0] (mmS h 282 59 (mSub (h 282 59) 2)) (fun x6 h6 => Q 0 h6)) ∧ (¬ (0 ≤ (mLcmp (h 327 (mSub (h 282 59) 2)) (h 327 (mSub (h 282 59) 1)))) → rC d k_m_puts [282, 1] (mmS h 282 59 (mSub (h 282 59) 2)) (fun x7 h7 => Q 0 h7))) ∧ ((a1 = ((((((((((((1 + 1) + 1) + 1) + 1) + 1) + 1) + 1) + 1) + 1) + 1) + 1) + 1) → ((mLcmp (h 327 (mSub (h 282 59) 2)) (h 327 (mSub (h 282 59) 1))) ≤ 0 → rC d k_m_puts [282, 0] (mmS h 282 59 (mSub (h 282 59) 2)) (fun x4 h4 => Q 0 h4)) ∧ (¬ ((mLcmp (h 327 (mSub (h 282 59) 2)) (h 327 (mSub (h 282 59) 1))) ≤ 0) → rC d k_m_puts [282, 1] (mmS h 282 59 (mSub (h 282 59) 2)) (fun x5 h5 => Q 0 h5))) ∧ ((a1 = (((((((((((((1 + 1) + 1) + 1) + 1) + 1) + 1) + 1) + 1) + 1) + 1) + 1) + 1) + 1) → ((mLcmp (h 327 (mSub (h 282 59) 2)) (h 327 (mSub (h 282 59) 1))) ≠ 0 → rC d k_m_puts [282, 0] (mmS h 282 59 (mSub (h 282 59) 2)) (fun x2 h2 => Q 0 h2)) ∧ (¬ ((mLcmp (h 327 (mSub (h 282 59) 2)) (h 327 (mSub (h 282 59) 1))) ≠ 0) → rC d k_m_puts [282, 1] (mmS h 282 59 (mSub (h 282 59) 2)) (fun x3 h3 => Q 0 h3))) ∧ ((a1 = ((((((((((((((1 + 1) + 1) + 1) + 1) + 1) + 1) + 1) + 1) + 1) + 1) + 1) + 1) + 1) + 1) → rC d k_m_puts [282, (nMul (h 327 (mSub (h 282 59) 2)) (h 327 (mSub (h 282 59) 1)))] (mmS h 282 59 (mSub (h 282 59) 2)) (fun x1 h1 => Q 0 h1)) ∧ (True)))))))))))))))) ∧ ((a1 < 1 ∨ 1 + ((15 : Nat) : Int) ≤ a1) → rB d k_m_joins n0 z0 Q 21 [(3, 282), (1, a1), (2, (h 327 (mSub (h 282 59) 1))), (0, 0), (2, (h 327 (mSub (h 282 59) 2))), (0, 0)] [] (mmS h 282 59 (mSub (h 282 59) 2)))))) : rB d k_m_joins n0 z0 Q 0 [(3, 282), (1, a1), (0, 0), (0, 0), (0, 0), (0, 0)] [] h :=
  rB_fold (cut := fun i => Nat.beq i 21) (f := 40) hy
set_option maxRecDepth 100000 in
theorem T_m_joins_21 (d : Nat) (n0 z0 : Int) (Q : Int → mmH → Prop) (h : mmH) (v1 : Int) (v2 : Int) (v4 : Int) (hy : ((mLcmp (nAdd v4 v2) 0) ≤ 0 → rC d k_m_puts [282, 0] h (fun x1 h1 => Q 0 h1)) ∧ (¬ ((mLcmp (nAdd v4 v2) 0) ≤ 0) → rC d k_m_puts [282, 1] h (fun x2 h2 => Q 0 h2))) : rB d k_m_joins n0 z0 Q 21 [(3, 282), (1, v1), (2, v2), (0, 0), (2, v4), (0, 0)] [] h :=
  rB_fold (cut := fun i => Nat.beq i 21) (f := 40) hy
set_option maxRecDepth 100000 in
theorem T_m_clip_0 (d : Nat) (n0 z0 : Int) (Q : Int → mmH → Prop) (h : mmH) (a0 : Int) (hy : ((mLcmp a0 1000000) ≤ 0 → (0 ≤ (mLcmp a0 (-1000000)) → Q a0 h) ∧ (¬ (0 ≤ (mLcmp a0 (-1000000))) → Q (-1000000) h)) ∧ (¬ ((mLcmp a0 1000000) ≤ 0) → Q 1000000 h)) : rB d k_m_clip n0 z0 Q 0 [(2, a0), (0, 0)] [] h :=
  rB_fold (cut := fun i => false) (f := 40) hy
set_option maxRecDepth 100000 in
theorem T_m_floor_0 (d : Nat) (n0 z0 : Int) (Q : Int → mmH → Prop) (h : mmH) (a0 : Int) (a1 : Int) (hy : ((mLcmp a1 0) ≠ 0 → mmD (a1 ≠ 0) inferInstance (mmD (a1 ≠ 0) inferInstance (((mLcmp (nRem a0 a1) 0) = 0 → Q (nDiv a0 a1) h) ∧ (¬ ((mLcmp (nRem a0 a1) 0) = 0) → (0 ≤ (mLcmp a0 0) → rB d k_m_floor n0 z0 Q 3 [(2, a0), (0, 0), (2, a1), (0, 0), (2, (nDiv a0 a1)), (0, 0)] [(1, 0)] h) ∧ (¬ (0 ≤ (mLcmp a0 0)) → rB d k_m_floor n0 z0 Q 3 [(2, a0), (0, 0), (2, a1), (0, 0), (2, (nDiv a0 a1)), (0, 0)] [(1, 1)] h))))) ∧ (¬ ((mLcmp a1 0) ≠ 0) → Q 0 h)) : rB d k_m_floor n0 z0 Q 0 [(2, a0), (0, 0), (2, a1), (0, 0), (0, 0), (0, 0)] [] h :=
  rB_fold (cut := fun i => Nat.beq i 3) (f := 40) hy
set_option maxRecDepth 100000 in
theorem T_m_floor_3 (d : Nat) (n0 z0 : Int) (Q : Int → mmH → Prop) (h : mmH) (v0 : Int) (v2 : Int) (v4 : Int) (s0 : Int) (hy : (0 ≤ (mLcmp v2 0) → (s0 = 0 → Q v4 h) ∧ (¬ (s0 = 0) → Q (nSub v4 1) h)) ∧ (¬ (0 ≤ (mLcmp v2 0)) → (s0 = 1 → Q v4 h) ∧ (¬ (s0 = 1) → Q (nSub v4 1) h))) : rB d k_m_floor n0 z0 Q 3 [(2, v0), (0, 0), (2, v2), (0, 0), (2, v4), (0, 0)] [(1, s0)] h :=
  rB_fold (cut := fun i => Nat.beq i 3) (f := 40) hy
set_option maxRecDepth 100000 in
theorem T_m_step_0 (d : Nat) (n0 z0 : Int) (Q : Int → mmH → Prop) (h : mmH) (a1 : Int) (a2 : Int) (a3 : Int) (hy : rC d k_m_isPerson [282, a1] h (fun x1 h1 => (x1 = 0 → Q (-1) h1) ∧ (¬ (x1 = 0) → rC d k_m_isLot [282, a2] h1 (fun x2 h2 => (x2 = 0 → Q (-1) h2) ∧ (¬ (x2 = 0) → rC d k_m_isLot [282, a3] h2 (fun x3 h3 => (x3 ≠ 0 → rC d k_m_isNear [282, a1, a2, a3] h3 (fun x4 h4 => (x4 = 0 → Q 0 h4) ∧ (¬ (x4 = 0) → rC d k_m_tilesOf [282, a3] h4 (fun x5 h5 => (x5 ≤ 0 → Q 0 h5) ∧ (¬ (x5 ≤ 0) → rC d k_m_tilesOf [282, a3] h5 (fun x6 h6 => rC d k_m_tollOf [282, a1, a3, x6] h6 (fun x7 h7 => (x7 = (-1) → Q 0 h7) ∧ (¬ (x7 = (-1)) → Q 1 h7)))))))) ∧ (¬ (x3 ≠ 0) → Q (-1) h3))))))) : rB d k_m_step n0 z0 Q 0 [(3, 282), (1, a1), (1, a2), (1, a3)] [] h :=
  rB_fold (cut := fun i => false) (f := 40) hy
set_option maxRecDepth 100000 in
theorem T_m_isNear_0 (d : Nat) (n0 z0 : Int) (Q : Int → mmH → Prop) (h : mmH) (a1 : Int) (a2 : Int) (a3 : Int) (hy : mmD ((0 : Int) ≤ (mAdd (mAdd 100 (mMul 10 a2)) a3) ∧ (mAdd (mAdd 100 (mMul 10 a2)) a3) < ((200 : Nat) : Int)) inferInstance (((mSub (h 316 (mAdd (mAdd 100 (mMul 10 a2)) a3)) 1) < 0 → Q 0 h) ∧ (¬ ((mSub (h 316 (mAdd (mAdd 100 (mMul 10 a2)) a3)) 1) < 0) → rC d k_m_personOf [282, a1, 1] h (fun x1 h1 => (x1 < (mSub (mSub (h 316 (mAdd (mAdd 100 (mMul 10 a2)) a3)) 1) (h 329 1)) → Q 0 h1) ∧ (¬ (x1 < (mSub (mSub (h 316 (mAdd (mAdd 100 (mMul 10 a2)) a3)) 1) (h 329 1))) → rC d k_m_heightOf [282, a3] h1 (fun x2 h2 => rC d k_m_heightOf [282, a2] h2 (fun x3 h3 => rC d k_m_personOf [282, a1, 2] h3 (fun x4 h4 => (x4 < (mSub x2 x3) → Q 0 h4) ∧ (¬ (x4 < (mSub x2 x3)) → Q 1 h4))))))))) : rB d k_m_isNear n0 z0 Q 0 [(3, 282), (1, a1), (1, a2), (1, a3), (0, 0)] [] h :=
  rB_fold (cut := fun i => false) (f := 40) hy
set_option maxRecDepth 100000 in
theorem T_m_way_0 (d : Nat) (n0 z0 : Int) (Q : Int → mmH → Prop) (h : mmH) (a1 : Int) (a2 : Int) (hy : rC d k_m_isPerson [282, a1] h (fun x1 h1 => (x1 = 0 → Q (-1) h1) ∧ (¬ (x1 = 0) → rC d k_m_hasWay [282, a1] h1 (fun x2 h2 => (x2 ≠ 0 → rC d k_m_placeOf [282, a1] h2 (fun x3 h3 => mmD ((0 : Int) ≤ x3 ∧ x3 < ((10 : Nat) : Int)) inferInstance ((a2 ≠ (-1) → (a2 ≠ 20 → rC d k_m_isIn [a2, 0, (mSub (h3 333 x3) 1)] h3 (fun x4 h4 => (x4 ≠ 0 → rC d k_m_placeOf [282, a1] h4 (fun x5 h5 => rB d k_m_way n0 z0 Q 6 [(3, 282), (1, a1), (1, a2), (1, (h3 333 x3)), (1, x5), (1, 0)] [] h5)) ∧ (¬ (x4 ≠ 0) → Q (-1) h4))) ∧ (¬ (a2 ≠ 20) → Q (h3 333 x3) h3)) ∧ (¬ (a2 ≠ (-1)) → rC d k_m_placeOf [282, a1] h3 (fun x6 h6 => mmD ((0 : Int) ≤ x6 ∧ x6 < ((10 : Nat) : Int)) inferInstance (Q (h6 332 x6) h6)))))) ∧ (¬ (x2 ≠ 0) → Q (-1) h2))))) : rB d k_m_way n0 z0 Q 0 [(3, 282), (1, a1), (1, a2), (0, 0), (0, 0), (0, 0)] [] h :=
  rB_fold (cut := fun i => Nat.beq i 6) (f := 40) hy
set_option maxRecDepth 100000 in
theorem T_m_way_6 (d : Nat) (n0 z0 : Int) (Q : Int → mmH → Prop) (h : mmH) (v1 : Int) (v2 : Int) (v3 : Int) (v4 : Int) (v5 : Int) (hy : (v2 < v5 → Q v4 h) ∧ (¬ (v2 < v5) → rC d k_m_nextOf [282, v1, v4] h (fun x1 h1 => rB d k_m_way n0 z0 Q 6 [(3, 282), (1, v1), (1, v2), (1, v3), (1, x1), (1, (mAdd v5 1))] [] h1))) : rB d k_m_way n0 z0 Q 6 [(3, 282), (1, v1), (1, v2), (1, v3), (1, v4), (1, v5)] [] h :=
  rB_fold (cut := fun i => Nat.beq i 6) (f := 40) hy
set_option maxRecDepth 100000 in
theorem T_m_hasWay_0 (d : Nat) (n0 z0 : Int) (Q : Int → mmH → Prop) (h : mmH) (a1 : Int) (hy : rC d k_m_comes [282, a1, 0, 0, 31] h (fun x1 h1 => rC d k_m_finds [282, a1, (-1), (-1)] h1 (fun x2 h2 => mmG (decide (x2 = 0 ∨ x2 = 1)) (Q x2 h2)))) : rB d k_m_hasWay n0 z0 Q 0 [(3, 282), (1, a1)] [] h :=
  rB_fold (cut := fun i => false) (f := 40) hy
set_option maxRecDepth 100000 in
theorem T_m_comes_0 (d : Nat) (n0 z0 : Int) (Q : Int → mmH → Prop) (h : mmH) (a1 : Int) (a2 : Int) (a3 : Int) (a4 : Int) (hy : rB d k_m_comes n0 z0 Q 1 [(3, 282), (1, a1), (1, a2), (1, a3), (1, a4), (1, 0), (0, 0)] [] h) : rB d k_m_comes n0 z0 Q 0 [(3, 282), (1, a1), (1, a2), (1, a3), (1, a4), (0, 0), (0, 0)] [] h :=
  rB_fold (cut := fun i => Nat.beq i 1 || Nat.beq i 4) (f := 40) hy
set_option maxRecDepth 100000 in
theorem T_m_comes_1 (d : Nat) (n0 z0 : Int) (Q : Int → mmH → Prop) (h : mmH) (v1 : Int) (v2 : Int) (v3 : Int) (v4 : Int) (v5 : Int) (w6 : mmV) (hy : rC d k_m_lotMany [282] h (fun x1 h1 => (x1 ≤ v5 → Q 0 h1) ∧ (¬ (x1 ≤ v5) → ((mAnd (mShr v2 v5) 1) ≠ 1 → ((mAnd (mShr v3 v5) 1) ≠ 1 → rC d k_m_tilesOf [282, v5] h1 (fun x2 h2 => rB d k_m_comes n0 z0 Q 4 [(3, 282), (1, v1), (1, v2), (1, v3), (1, v4), (1, v5), w6] [(1, x2)] h2)) ∧ (¬ ((mAnd (mShr v3 v5) 1) ≠ 1) → rC d k_m_tilesOf [282, v5] h1 (fun x3 h3 => (x3 ≠ 0 → rC d k_m_tilesOf [282, v5] h3 (fun x4 h4 => rB d k_m_comes n0 z0 Q 4 [(3, 282), (1, v1), (1, v2), (1, v3), (1, v4), (1, v5), w6] [(1, x4)] h4)) ∧ (¬ (x3 ≠ 0) → rB d k_m_comes n0 z0 Q 4 [(3, 282), (1, v1), (1, v2), (1, v3), (1, v4), (1, v5), w6] [(1, 1)] h3)))) ∧ (¬ ((mAnd (mShr v2 v5) 1) ≠ 1) → rB d k_m_comes n0 z0 Q 4 [(3, 282), (1, v1), (1, v2), (1, v3), (1, v4), (1, v5), w6] [(1, 0)] h1)))) : rB d k_m_comes n0 z0 Q 1 [(3, 282), (1, v1), (1, v2), (1, v3), (1, v4), (1, v5), w6] [] h :=
  rB_fold (cut := fun i => Nat.beq i 1 || Nat.beq i 4) (f := 40) hy
set_option maxRecDepth 100000 in
theorem T_m_comes_4 (d : Nat) (n0 z0 : Int) (Q : Int → mmH → Prop) (h : mmH) (v1 : Int) (v2 : Int) (v3 : Int) (v4 : Int) (v5 : Int) (w6 : mmV) (s0 : Int) (hy : rC d k_m_tollOf [282, v1, v5, s0] h (fun x1 h1 => mmD ((0 : Int) ≤ v5 ∧ v5 < ((10 : Nat) : Int)) inferInstance ((s0 ≤ 0 → mmD ((0 : Int) ≤ v5 ∧ v5 < ((10 : Nat) : Int)) inferInstance (rB d k_m_comes n0 z0 Q 1 [(3, 282), (1, v1), (1, v2), (1, v3), (1, v4), (1, (mAdd v5 1)), (1, s0)] [] (mmS (mmS h1 331 v5 x1) 330 v5 0))) ∧ (¬ (s0 ≤ 0) → mmD ((0 : Int) ≤ v5 ∧ v5 < ((10 : Nat) : Int)) inferInstance ((((mmS h1 331 v5 x1) 331 v5) = (-1) → mmD ((0 : Int) ≤ v5 ∧ v5 < ((10 : Nat) : Int)) inferInstance (rB d k_m_comes n0 z0 Q 1 [(3, 282), (1, v1), (1, v2), (1, v3), (1, v4), (1, (mAdd v5 1)), (1, s0)] [] (mmS (mmS h1 331 v5 x1) 330 v5 0))) ∧ (¬ (((mmS h1 331 v5 x1) 331 v5) = (-1)) → rC d k_m_ownerOf [282, v5] (mmS h1 331 v5 x1) (fun x2 h2 => ((mAnd (mShr v4 x2) 1) ≠ 1 → mmD ((0 : Int) ≤ v5 ∧ v5 < ((10 : Nat) : Int)) inferInstance (rB d k_m_comes n0 z0 Q 1 [(3, 282), (1, v1), (1, v2), (1, v3), (1, v4), (1, (mAdd v5 1)), (1, s0)] [] (mmS h2 330 v5 0))) ∧ (¬ ((mAnd (mShr v4 x2) 1) ≠ 1) → mmD ((0 : Int) ≤ v5 ∧ v5 < ((10 : Nat) : Int)) inferInstance (rB d k_m_comes n0 z0 Q 1 [(3, 282), (1, v1), (1, v2), (1, v3), (1, v4), (1, (mAdd v5 1)), (1, s0)] [] (mmS h2 330 v5 1)))))))))) : rB d k_m_comes n0 z0 Q 4 [(3, 282), (1, v1), (1, v2), (1, v3), (1, v4), (1, v5), w6] [(1, s0)] h :=
  rB_fold (cut := fun i => Nat.beq i 1 || Nat.beq i 4) (f := 40) hy
end
section
/-! ===== mm: trees, by program ===== -/
set_option maxRecDepth 100000 in
theorem T_m_finds_0 (d : Nat) (n0 z0 : Int) (Q : Int → mmH → Prop) (h : mmH) (a1 : Int) (a2 : Int) (a3 : Int) (hy : rB d k_m_finds n0 z0 Q 1 [(3, 282), (1, a1), (1, a2), (1, a3), (1, 0), (0, 0), (0, 0), (0, 0), (0, 0), (0, 0)] [] h) : rB d k_m_finds n0 z0 Q 0 [(3, 282), (1, a1), (1, a2), (1, a3), (0, 0), (0, 0), (0, 0), (0, 0), (0, 0), (0, 0)] [] h :=
  rB_fold (cut := fun i => Nat.beq i 1 || Nat.beq i 3 || Nat.beq i 4 || Nat.beq i 5 || Nat.beq i 9 || Nat.beq i 10 || Nat.beq i 12) (f := 40) hy
set_option maxRecDepth 100000 in
theorem T_m_finds_1 (d : Nat) (n0 z0 : Int) (Q : Int → mmH → Prop) (h : mmH) (v1 : Int) (v2 : Int) (v3 : Int) (v4 : Int) (hy : rC d k_m_lotMany [282] h (fun x1 h1 => (x1 ≤ v4 → rC d k_m_goalOf [282, v1] h1 (fun x2 h2 => mmD ((0 : Int) ≤ x2 ∧ x2 < ((10 : Nat) : Int)) inferInstance (rC d k_m_goalOf [282, v1] (mmS h2 332 x2 0) (fun x3 h3 => mmD ((0 : Int) ≤ x3 ∧ x3 < ((10 : Nat) : Int)) inferInstance (rB d k_m_finds n0 z0 Q 3 [(3, 282), (1, v1), (1, v2), (1, v3), (1, 0), (0, 0), (0, 0), (0, 0), (0, 0), (0, 0)] [] (mmS h3 333 x3 0)))))) ∧ (¬ (x1 ≤ v4) → mmD ((0 : Int) ≤ v4 ∧ v4 < ((10 : Nat) : Int)) inferInstance (mmD ((0 : Int) ≤ v4 ∧ v4 < ((10 : Nat) : Int)) inferInstance (rB d k_m_finds n0 z0 Q 1 [(3, 282), (1, v1), (1, v2), (1, v3), (1, (mAdd v4 1)), (0, 0), (0, 0), (0, 0), (0, 0), (0, 0)] [] (mmS (mmS h1 332 v4 1000000) 333 v4 1000000)))))) : rB d k_m_finds n0 z0 Q 1 [(3, 282), (1, v1), (1, v2), (1, v3), (1, v4), (0, 0), (0, 0), (0, 0), (0, 0), (0, 0)] [] h :=
  rB_fold (cut := fun i => Nat.beq i 1 || Nat.beq i 3 || Nat.beq i 4 || Nat.beq i 5 || Nat.beq i 9 || Nat.beq i 10 || Nat.beq i 12) (f := 40) hy
set_option maxRecDepth 100000 in
theorem T_m_finds_3 (d : Nat) (n0 z0 : Int) (Q : Int → mmH → Prop) (h : mmH) (v1 : Int) (v2 : Int) (v3 : Int) (v4 : Int) (w5 : mmV) (w6 : mmV) (w7 : mmV) (w8 : mmV) (w9 : mmV) (hy : rC d k_m_lotMany [282] h (fun x1 h1 => (x1 ≤ v4 → rC d k_m_placeOf [282, v1] h1 (fun x2 h2 => mmD ((0 : Int) ≤ x2 ∧ x2 < ((10 : Nat) : Int)) inferInstance ((1000000 ≤ (h2 332 x2) → Q 0 h2) ∧ (¬ (1000000 ≤ (h2 332 x2)) → Q 1 h2)))) ∧ (¬ (x1 ≤ v4) → rB d k_m_finds n0 z0 Q 4 [(3, 282), (1, v1), (1, v2), (1, v3), (1, v4), (1, 0), w6, w7, w8, w9] [] h1))) : rB d k_m_finds n0 z0 Q 3 [(3, 282), (1, v1), (1, v2), (1, v3), (1, v4), w5, w6, w7, w8, w9] [] h :=
  rB_fold (cut := fun i => Nat.beq i 1 || Nat.beq i 3 || Nat.beq i 4 || Nat.beq i 5 || Nat.beq i 9 || Nat.beq i 10 || Nat.beq i 12) (f := 40) hy
set_option maxRecDepth 100000 in
theorem T_m_finds_4 (d : Nat) (n0 z0 : Int) (Q : Int → mmH → Prop) (h : mmH) (v1 : Int) (v2 : Int) (v3 : Int) (v4 : Int) (v5 : Int) (w6 : mmV) (w7 : mmV) (w8 : mmV) (w9 : mmV) (hy : rC d k_m_lotMany [282] h (fun x1 h1 => (x1 ≤ v5 → rB d k_m_finds n0 z0 Q 3 [(3, 282), (1, v1), (1, v2), (1, v3), (1, (mAdd v4 1)), (1, v5), w6, w7, w8, w9] [] h1) ∧ (¬ (x1 ≤ v5) → rB d k_m_finds n0 z0 Q 5 [(3, 282), (1, v1), (1, v2), (1, v3), (1, v4), (1, v5), (1, 0), w7, w8, w9] [] h1))) : rB d k_m_finds n0 z0 Q 4 [(3, 282), (1, v1), (1, v2), (1, v3), (1, v4), (1, v5), w6, w7, w8, w9] [] h :=
  rB_fold (cut := fun i => Nat.beq i 1 || Nat.beq i 3 || Nat.beq i 4 || Nat.beq i 5 || Nat.beq i 9 || Nat.beq i 10 || Nat.beq i 12) (f := 40) hy
set_option maxRecDepth 100000 in
theorem T_m_finds_5 (d : Nat) (n0 z0 : Int) (Q : Int → mmH → Prop) (h : mmH) (v1 : Int) (v2 : Int) (v3 : Int) (v4 : Int) (v5 : Int) (v6 : Int) (w7 : mmV) (w8 : mmV) (w9 : mmV) (hy : rC d k_m_lotMany [282] h (fun x1 h1 => (x1 ≤ v6 → rB d k_m_finds n0 z0 Q 4 [(3, 282), (1, v1), (1, v2), (1, v3), (1, v4), (1, (mAdd v5 1)), (1, v6), w7, w8, w9] [] h1) ∧ (¬ (x1 ≤ v6) → (v5 ≠ v2 → (v5 ≠ v3 → rB d k_m_finds n0 z0 Q 9 [(3, 282), (1, v1), (1, v2), (1, v3), (1, v4), (1, v5), (1, v6), w7, w8, w9] [(1, 0)] h1) ∧ (¬ (v5 ≠ v3) → (v6 ≠ v2 → rB d k_m_finds n0 z0 Q 9 [(3, 282), (1, v1), (1, v2), (1, v3), (1, v4), (1, v5), (1, v6), w7, w8, w9] [(1, 0)] h1) ∧ (¬ (v6 ≠ v2) → rB d k_m_finds n0 z0 Q 9 [(3, 282), (1, v1), (1, v2), (1, v3), (1, v4), (1, v5), (1, v6), w7, w8, w9] [(1, 1)] h1))) ∧ (¬ (v5 ≠ v2) → (v6 = v3 → rB d k_m_finds n0 z0 Q 9 [(3, 282), (1, v1), (1, v2), (1, v3), (1, v4), (1, v5), (1, v6), w7, w8, w9] [(1, 1)] h1) ∧ (¬ (v6 = v3) → (v5 ≠ v3 → rB d k_m_finds n0 z0 Q 9 [(3, 282), (1, v1), (1, v2), (1, v3), (1, v4), (1, v5), (1, v6), w7, w8, w9] [(1, 0)] h1) ∧ (¬ (v5 ≠ v3) → (v6 ≠ v2 → rB d k_m_finds n0 z0 Q 9 [(3, 282), (1, v1), (1, v2), (1, v3), (1, v4), (1, v5), (1, v6), w7, w8, w9] [(1, 0)] h1) ∧ (¬ (v6 ≠ v2) → rB d k_m_finds n0 z0 Q 9 [(3, 282), (1, v1), (1, v2), (1, v3), (1, v4), (1, v5), (1, v6), w7, w8, w9] [(1, 1)] h1))))))) : rB d k_m_finds n0 z0 Q 5 [(3, 282), (1, v1), (1, v2), (1, v3), (1, v4), (1, v5), (1, v6), w7, w8, w9] [] h :=
  rB_fold (cut := fun i => Nat.beq i 1 || Nat.beq i 3 || Nat.beq i 4 || Nat.beq i 5 || Nat.beq i 9 || Nat.beq i 10 || Nat.beq i 12) (f := 40) hy
set_option maxRecDepth 100000 in
theorem T_m_finds_9 (d : Nat) (n0 z0 : Int) (Q : Int → mmH → Prop) (h : mmH) (v1 : Int) (v2 : Int) (v3 : Int) (v4 : Int) (v5 : Int) (v6 : Int) (w7 : mmV) (w8 : mmV) (w9 : mmV) (s0 : Int) (hy : (s0 ≠ 0 → rB d k_m_finds n0 z0 Q 12 [(3, 282), (1, v1), (1, v2), (1, v3), (1, v4), (1, v5), (1, v6), (1, s0), w8, w9] [] h) ∧ (¬ (s0 ≠ 0) → mmD ((0 : Int) ≤ v6 ∧ v6 < ((10 : Nat) : Int)) inferInstance (((h 332 v6) = 1000000 → rB d k_m_finds n0 z0 Q 12 [(3, 282), (1, v1), (1, v2), (1, v3), (1, v4), (1, v5), (1, v6), (1, s0), w8, w9] [] h) ∧ (¬ ((h 332 v6) = 1000000) → mmD ((0 : Int) ≤ v6 ∧ v6 < ((10 : Nat) : Int)) inferInstance (((h 330 v6) = 0 → rB d k_m_finds n0 z0 Q 12 [(3, 282), (1, v1), (1, v2), (1, v3), (1, v4), (1, v5), (1, v6), (1, s0), w8, w9] [] h) ∧ (¬ ((h 330 v6) = 0) → rC d k_m_isNear [282, v1, v5, v6] h (fun x1 h1 => (x1 ≠ 0 → rB d k_m_finds n0 z0 Q 10 [(3, 282), (1, v1), (1, v2), (1, v3), (1, v4), (1, v5), (1, v6), (1, s0), w8, w9] [] h1) ∧ (¬ (x1 ≠ 0) → rB d k_m_finds n0 z0 Q 12 [(3, 282), (1, v1), (1, v2), (1, v3), (1, v4), (1, v5), (1, v6), (1, s0), w8, w9] [] h1)))))))) : rB d k_m_finds n0 z0 Q 9 [(3, 282), (1, v1), (1, v2), (1, v3), (1, v4), (1, v5), (1, v6), w7, w8, w9] [(1, s0)] h :=
  rB_fold (cut := fun i => Nat.beq i 1 || Nat.beq i 3 || Nat.beq i 4 || Nat.beq i 5 || Nat.beq i 9 || Nat.beq i 10 || Nat.beq i 12) (f := 40) hy
set_option maxRecDepth 100000 in
theorem T_m_finds_10 (d : Nat) (n0 z0 : Int) (Q : Int → mmH → Prop) (h : mmH) (v1 : Int) (v2 : Int) (v3 : Int) (v4 : Int) (v5 : Int) (v6 : Int) (v7 : Int) (w8 : mmV) (w9 : mmV) (hy : mmD ((0 : Int) ≤ v6 ∧ v6 < ((10 : Nat) : Int)) inferInstance (mmD ((0 : Int) ≤ v6 ∧ v6 < ((10 : Nat) : Int)) inferInstance (mmD ((0 : Int) ≤ v6 ∧ v6 < ((10 : Nat) : Int)) inferInstance (mmD ((0 : Int) ≤ v5 ∧ v5 < ((10 : Nat) : Int)) inferInstance (((h 332 v5) < (mAdd (h 332 v6) (h 331 v6)) → rB d k_m_finds n0 z0 Q 12 [(3, 282), (1, v1), (1, v2), (1, v3), (1, v4), (1, v5), (1, v6), (1, v7), (1, (mAdd (h 332 v6) (h 331 v6))), (1, (mAdd (h 333 v6) 1))] [] h) ∧ (¬ ((h 332 v5) < (mAdd (h 332 v6) (h 331 v6))) → mmD ((0 : Int) ≤ v5 ∧ v5 < ((10 : Nat) : Int)) inferInstance (((mAdd (h 332 v6) (h 331 v6)) ≠ (h 332 v5) → mmD ((0 : Int) ≤ v5 ∧ v5 < ((10 : Nat) : Int)) inferInstance (mmD ((0 : Int) ≤ v5 ∧ v5 < ((10 : Nat) : Int)) inferInstance (rB d k_m_finds n0 z0 Q 12 [(3, 282), (1, v1), (1, v2), (1, v3), (1, v4), (1, v5), (1, v6), (1, v7), (1, (mAdd (h 332 v6) (h 331 v6))), (1, (mAdd (h 333 v6) 1))] [] (mmS (mmS h 332 v5 (mAdd (h 332 v6) (h 331 v6))) 333 v5 (mAdd (h 333 v6) 1))))) ∧ (¬ ((mAdd (h 332 v6) (h 331 v6)) ≠ (h 332 v5)) → mmD ((0 : Int) ≤ v5 ∧ v5 < ((10 : Nat) : Int)) inferInstance (((mAdd (h 333 v6) 1) < (h 333 v5) → mmD ((0 : Int) ≤ v5 ∧ v5 < ((10 : Nat) : Int)) inferInstance (mmD ((0 : Int) ≤ v5 ∧ v5 < ((10 : Nat) : Int)) inferInstance (rB d k_m_finds n0 z0 Q 12 [(3, 282), (1, v1), (1, v2), (1, v3), (1, v4), (1, v5), (1, v6), (1, v7), (1, (mAdd (h 332 v6) (h 331 v6))), (1, (mAdd (h 333 v6) 1))] [] (mmS (mmS h 332 v5 (mAdd (h 332 v6) (h 331 v6))) 333 v5 (mAdd (h 333 v6) 1))))) ∧ (¬ ((mAdd (h 333 v6) 1) < (h 333 v5)) → rB d k_m_finds n0 z0 Q 12 [(3, 282), (1, v1), (1, v2), (1, v3), (1, v4), (1, v5), (1, v6), (1, v7), (1, (mAdd (h 332 v6) (h 331 v6))), (1, (mAdd (h 333 v6) 1))] [] h)))))))))) : rB d k_m_finds n0 z0 Q 10 [(3, 282), (1, v1), (1, v2), (1, v3), (1, v4), (1, v5), (1, v6), (1, v7), w8, w9] [] h :=
  rB_fold (cut := fun i => Nat.beq i 1 || Nat.beq i 3 || Nat.beq i 4 || Nat.beq i 5 || Nat.beq i 9 || Nat.beq i 10 || Nat.beq i 12) (f := 40) hy
set_option maxRecDepth 100000 in
theorem T_m_finds_12 (d : Nat) (n0 z0 : Int) (Q : Int → mmH → Prop) (h : mmH) (v1 : Int) (v2 : Int) (v3 : Int) (v4 : Int) (v5 : Int) (v6 : Int) (v7 : Int) (w8 : mmV) (w9 : mmV) (hy : rB d k_m_finds n0 z0 Q 5 [(3, 282), (1, v1), (1, v2), (1, v3), (1, v4), (1, v5), (1, (mAdd v6 1)), (1, v7), w8, w9] [] h) : rB d k_m_finds n0 z0 Q 12 [(3, 282), (1, v1), (1, v2), (1, v3), (1, v4), (1, v5), (1, v6), (1, v7), w8, w9] [] h :=
  rB_fold (cut := fun i => Nat.beq i 1 || Nat.beq i 3 || Nat.beq i 4 || Nat.beq i 5 || Nat.beq i 9 || Nat.beq i 10 || Nat.beq i 12) (f := 40) hy
set_option maxRecDepth 100000 in
theorem T_m_nextOf_0 (d : Nat) (n0 z0 : Int) (Q : Int → mmH → Prop) (h : mmH) (a1 : Int) (a2 : Int) (hy : rB d k_m_nextOf n0 z0 Q 1 [(3, 282), (1, a1), (1, a2), (1, 0)] [] h) : rB d k_m_nextOf n0 z0 Q 0 [(3, 282), (1, a1), (1, a2), (0, 0)] [] h :=
  rB_fold (cut := fun i => Nat.beq i 1) (f := 40) hy
set_option maxRecDepth 100000 in
theorem T_m_nextOf_1 (d : Nat) (n0 z0 : Int) (Q : Int → mmH → Prop) (h : mmH) (v1 : Int) (v2 : Int) (v3 : Int) (hy : mmD ((0 : Int) ≤ v3 ∧ v3 < ((10 : Nat) : Int)) inferInstance (((h 330 v3) = 0 → rB d k_m_nextOf n0 z0 Q 1 [(3, 282), (1, v1), (1, v2), (1, (mAdd v3 1))] [] h) ∧ (¬ ((h 330 v3) = 0) → rC d k_m_isNear [282, v1, v2, v3] h (fun x1 h1 => (x1 = 0 → rB d k_m_nextOf n0 z0 Q 1 [(3, 282), (1, v1), (1, v2), (1, (mAdd v3 1))] [] h1) ∧ (¬ (x1 = 0) → mmD ((0 : Int) ≤ v3 ∧ v3 < ((10 : Nat) : Int)) inferInstance (((h1 332 v3) = 1000000 → rB d k_m_nextOf n0 z0 Q 1 [(3, 282), (1, v1), (1, v2), (1, (mAdd v3 1))] [] h1) ∧ (¬ ((h1 332 v3) = 1000000) → mmD ((0 : Int) ≤ v3 ∧ v3 < ((10 : Nat) : Int)) inferInstance (mmD ((0 : Int) ≤ v3 ∧ v3 < ((10 : Nat) : Int)) inferInstance (mmD ((0 : Int) ≤ v2 ∧ v2 < ((10 : Nat) : Int)) inferInstance (((mAdd (h1 332 v3) (h1 331 v3)) ≠ (h1 332 v2) → rB d k_m_nextOf n0 z0 Q 1 [(3, 282), (1, v1), (1, v2), (1, (mAdd v3 1))] [] h1) ∧ (¬ ((mAdd (h1 332 v3) (h1 331 v3)) ≠ (h1 332 v2)) → mmD ((0 : Int) ≤ v3 ∧ v3 < ((10 : Nat) : Int)) inferInstance (mmD ((0 : Int) ≤ v2 ∧ v2 < ((10 : Nat) : Int)) inferInstance (((mAdd (h1 333 v3) 1) = (h1 333 v2) → Q v3 h1) ∧ (¬ ((mAdd (h1 333 v3) 1) = (h1 333 v2)) → rB d k_m_nextOf n0 z0 Q 1 [(3, 282), (1, v1), (1, v2), (1, (mAdd v3 1))] [] h1)))))))))))))) : rB d k_m_nextOf n0 z0 Q 1 [(3, 282), (1, v1), (1, v2), (1, v3)] [] h :=
  rB_fold (cut := fun i => Nat.beq i 1) (f := 40) hy
set_option maxRecDepth 100000 in
theorem T_m_leave_0 (d : Nat) (n0 z0 : Int) (Q : Int → mmH → Prop) (h : mmH) (a1 : Int) (a2 : Int) (hy : rC d k_m_isPerson [282, a1] h (fun x1 h1 => (x1 = 0 → Q (-1) h1) ∧ (¬ (x1 = 0) → rC d k_m_isIn [a2, 0, 1] h1 (fun x2 h2 => (x2 ≠ 0 → rB d k_m_leave n0 z0 Q 3 [(3, 282), (1, a1), (1, a2), (1, (-1)), (1, 0)] [] h2) ∧ (¬ (x2 ≠ 0) → Q (-1) h2))))) : rB d k_m_leave n0 z0 Q 0 [(3, 282), (1, a1), (1, a2), (0, 0), (0, 0)] [] h :=
  rB_fold (cut := fun i => Nat.beq i 3 || Nat.beq i 4) (f := 40) hy
set_option maxRecDepth 100000 in
theorem T_m_leave_3 (d : Nat) (n0 z0 : Int) (Q : Int → mmH → Prop) (h : mmH) (v1 : Int) (v2 : Int) (v3 : Int) (v4 : Int) (hy : rC d k_m_ownerMany [282] h (fun x1 h1 => ((mShl 1 x1) ≤ v4 → (v3 ≠ (-1) → (v2 ≠ 0 → Q v3 h1) ∧ (¬ (v2 ≠ 0) → rC d k_m_bits [v3] h1 (fun x2 h2 => Q x2 h2))) ∧ (¬ (v3 ≠ (-1)) → Q (-1) h1)) ∧ (¬ ((mShl 1 x1) ≤ v4) → (v3 = (-1) → rB d k_m_leave n0 z0 Q 4 [(3, 282), (1, v1), (1, v2), (1, v3), (1, v4)] [] h1) ∧ (¬ (v3 = (-1)) → rC d k_m_bits [v4] h1 (fun x3 h3 => rC d k_m_bits [v3] h3 (fun x4 h4 => (x3 < x4 → rB d k_m_leave n0 z0 Q 4 [(3, 282), (1, v1), (1, v2), (1, v3), (1, v4)] [] h4) ∧ (¬ (x3 < x4) → rB d k_m_leave n0 z0 Q 3 [(3, 282), (1, v1), (1, v2), (1, v3), (1, (mAdd v4 1))] [] h4))))))) : rB d k_m_leave n0 z0 Q 3 [(3, 282), (1, v1), (1, v2), (1, v3), (1, v4)] [] h :=
  rB_fold (cut := fun i => Nat.beq i 3 || Nat.beq i 4) (f := 40) hy
set_option maxRecDepth 100000 in
theorem T_m_leave_4 (d : Nat) (n0 z0 : Int) (Q : Int → mmH → Prop) (h : mmH) (v1 : Int) (v2 : Int) (v3 : Int) (v4 : Int) (hy : rC d k_m_comes [282, v1, 0, 0, v4] h (fun x1 h1 => rC d k_m_finds [282, v1, (-1), (-1)] h1 (fun x2 h2 => (x2 = 0 → rB d k_m_leave n0 z0 Q 3 [(3, 282), (1, v1), (1, v2), (1, v3), (1, (mAdd v4 1))] [] h2) ∧ (¬ (x2 = 0) → rB d k_m_leave n0 z0 Q 3 [(3, 282), (1, v1), (1, v2), (1, v4), (1, (mAdd v4 1))] [] h2)))) : rB d k_m_leave n0 z0 Q 4 [(3, 282), (1, v1), (1, v2), (1, v3), (1, v4)] [] h :=
  rB_fold (cut := fun i => Nat.beq i 3 || Nat.beq i 4) (f := 40) hy
set_option maxRecDepth 100000 in
theorem T_m_undo_0 (d : Nat) (n0 z0 : Int) (Q : Int → mmH → Prop) (h : mmH)  (hy : ((h 282 67) ≠ 0 → rB d k_m_undo n0 z0 Q 2 [(3, 282), (1, 0)] [] h) ∧ (¬ ((h 282 67) ≠ 0) → Q 0 h)) : rB d k_m_undo n0 z0 Q 0 [(3, 282), (0, 0)] [] h :=
  rB_fold (cut := fun i => Nat.beq i 2) (f := 40) hy
set_option maxRecDepth 100000 in
theorem T_m_undo_2 (d : Nat) (n0 z0 : Int) (Q : Int → mmH → Prop) (h : mmH) (v1 : Int) (hy : (210 ≤ v1 → Q 1 (mmS (mmS h 282 68 (mRem (mSub (mAdd (h 282 68) 20) 1) 20)) 282 67 (mSub (h 282 67) 1))) ∧ (¬ (210 ≤ v1) → mmD ((0 : Int) ≤ (mAdd (mMul 210 (h 282 68)) v1) ∧ (mAdd (mMul 210 (h 282 68)) v1) < ((4200 : Nat) : Int)) inferInstance (mmD ((0 : Int) ≤ v1 ∧ v1 < ((210 : Nat) : Int)) inferInstance (rB d k_m_undo n0 z0 Q 2 [(3, 282), (1, (mAdd v1 1))] [] (mmS h 329 v1 (h 334 (mAdd (mMul 210 (h 282 68)) v1))))))) : rB d k_m_undo n0 z0 Q 2 [(3, 282), (1, v1)] [] h :=
  rB_fold (cut := fun i => Nat.beq i 2) (f := 40) hy
set_option maxRecDepth 100000 in
theorem T_m_go_0 (d : Nat) (n0 z0 : Int) (Q : Int → mmH → Prop) (h : mmH) (a1 : Int) (hy : rC d k_m_isPerson [282, a1] h (fun x1 h1 => (x1 = 0 → Q (-1) h1) ∧ (¬ (x1 = 0) → rC d k_m_hasWay [282, a1] h1 (fun x2 h2 => (x2 ≠ 0 → rC d k_m_placeOf [282, a1] h2 (fun x3 h3 => mmD ((0 : Int) ≤ x3 ∧ x3 < ((10 : Nat) : Int)) inferInstance (rC d k_m_keeps [282] h3 (fun x4 h4 => rC d k_m_walks [282, a1] h4 (fun x5 h5 => Q (h3 332 x3) h5))))) ∧ (¬ (x2 ≠ 0) → Q (-1) h2))))) : rB d k_m_go n0 z0 Q 0 [(3, 282), (1, a1), (0, 0), (0, 0)] [] h :=
  rB_fold (cut := fun i => false) (f := 40) hy
set_option maxRecDepth 100000 in
theorem T_m_keeps_0 (d : Nat) (n0 z0 : Int) (Q : Int → mmH → Prop) (h : mmH)  (hy : rB d k_m_keeps n0 z0 Q 1 [(3, 282), (1, 0)] [] (mmS h 282 68 (mRem (mAdd (h 282 68) 1) 20))) : rB d k_m_keeps n0 z0 Q 0 [(3, 282), (0, 0)] [] h :=
  rB_fold (cut := fun i => Nat.beq i 1) (f := 40) hy
set_option maxRecDepth 100000 in
theorem T_m_keeps_1 (d : Nat) (n0 z0 : Int) (Q : Int → mmH → Prop) (h : mmH) (v1 : Int) (hy : (210 ≤ v1 → (20 ≤ (h 282 67) → Q 0 h) ∧ (¬ (20 ≤ (h 282 67)) → Q 0 (mmS h 282 67 (mAdd (h 282 67) 1)))) ∧ (¬ (210 ≤ v1) → mmD ((0 : Int) ≤ v1 ∧ v1 < ((210 : Nat) : Int)) inferInstance (mmD ((0 : Int) ≤ (mAdd (mMul 210 (h 282 68)) v1) ∧ (mAdd (mMul 210 (h 282 68)) v1) < ((4200 : Nat) : Int)) inferInstance (rB d k_m_keeps n0 z0 Q 1 [(3, 282), (1, (mAdd v1 1))] [] (mmS h 334 (mAdd (mMul 210 (h 282 68)) v1) (h 329 v1)))))) : rB d k_m_keeps n0 z0 Q 1 [(3, 282), (1, v1)] [] h :=
  rB_fold (cut := fun i => Nat.beq i 1) (f := 40) hy
set_option maxRecDepth 100000 in
theorem T_m_walks_0 (d : Nat) (n0 z0 : Int) (Q : Int → mmH → Prop) (h : mmH) (a1 : Int) (hy : rC d k_m_hasWay [282, a1] h (fun x1 h1 => (x1 ≠ 0 → rC d k_m_placeOf [282, a1] h1 (fun x2 h2 => rB d k_m_walks n0 z0 Q 2 [(3, 282), (1, a1), (1, 0), (1, x2)] [] h2)) ∧ (¬ (x1 ≠ 0) → Q 0 h1))) : rB d k_m_walks n0 z0 Q 0 [(3, 282), (1, a1), (0, 0), (0, 0)] [] h :=
  rB_fold (cut := fun i => Nat.beq i 2) (f := 40) hy
set_option maxRecDepth 100000 in
theorem T_m_walks_2 (d : Nat) (n0 z0 : Int) (Q : Int → mmH → Prop) (h : mmH) (v1 : Int) (v2 : Int) (v3 : Int) (hy : rC d k_m_goalOf [282, v1] h (fun x1 h1 => (v3 = x1 → rC d k_m_placeOf [282, v1] h1 (fun x2 h2 => mmD ((0 : Int) ≤ (mAdd (mAdd 12 (mMul 2 v1)) 1) ∧ (mAdd (mAdd 12 (mMul 2 v1)) 1) < ((210 : Nat) : Int)) inferInstance (mmD ((0 : Int) ≤ (mAdd 12 (mMul 2 v1)) ∧ (mAdd 12 (mMul 2 v1)) < ((210 : Nat) : Int)) inferInstance (Q v2 (mmS (mmS h2 329 (mAdd (mAdd 12 (mMul 2 v1)) 1) x2) 329 (mAdd 12 (mMul 2 v1)) v3))))) ∧ (¬ (v3 = x1) → rC d k_m_nextOf [282, v1, v3] h1 (fun x3 h3 => rC d k_m_ownerOf [282, x3] h3 (fun x4 h4 => mmD ((0 : Int) ≤ (mAdd 24 x4) ∧ (mAdd 24 x4) < ((210 : Nat) : Int)) inferInstance (mmD ((0 : Int) ≤ x3 ∧ x3 < ((10 : Nat) : Int)) inferInstance (mmD ((0 : Int) ≤ (mAdd 24 x4) ∧ (mAdd 24 x4) < ((210 : Nat) : Int)) inferInstance (rC d k_m_breaks [282, v1, x3] (mmS h4 329 (mAdd 24 x4) (mAdd (h4 329 (mAdd 24 x4)) (h4 331 x3))) (fun x5 h5 => (x5 ≠ 0 → mmD ((0 : Int) ≤ (mAdd 2 x3) ∧ (mAdd 2 x3) < ((210 : Nat) : Int)) inferInstance (mmD ((0 : Int) ≤ (mAdd 2 x3) ∧ (mAdd 2 x3) < ((210 : Nat) : Int)) inferInstance (rC d k_m_leads [282, x3, v1] (mmS h5 329 (mAdd 2 x3) (mSub (h5 329 (mAdd 2 x3)) 1)) (fun x6 h6 => rB d k_m_walks n0 z0 Q 2 [(3, 282), (1, v1), (1, (mAdd v2 1)), (1, x3)] [] h6)))) ∧ (¬ (x5 ≠ 0) → rB d k_m_walks n0 z0 Q 2 [(3, 282), (1, v1), (1, v2), (1, x3)] [] h5)))))))))) : rB d k_m_walks n0 z0 Q 2 [(3, 282), (1, v1), (1, v2), (1, v3)] [] h :=
  rB_fold (cut := fun i => Nat.beq i 2) (f := 40) hy
set_option maxRecDepth 100000 in
theorem T_m_breaks_0 (d : Nat) (n0 z0 : Int) (Q : Int → mmH → Prop) (h : mmH) (a1 : Int) (a2 : Int) (hy : rC d k_m_personOf [282, a1, 0] h (fun x1 h1 => rC d k_m_tilesOf [282, a2] h1 (fun x2 h2 => (x1 ≤ (mMul (h1 318 1) x2) → Q 0 h2) ∧ (¬ (x1 ≤ (mMul (h1 318 1) x2)) → Q 1 h2)))) : rB d k_m_breaks n0 z0 Q 0 [(3, 282), (1, a1), (1, a2)] [] h :=
  rB_fold (cut := fun i => false) (f := 40) hy
set_option maxRecDepth 100000 in
theorem T_m_leads_0 (d : Nat) (n0 z0 : Int) (Q : Int → mmH → Prop) (h : mmH) (a1 : Int) (a2 : Int) (hy : ((h 329 29) ≠ 60 → rB d k_m_leads n0 z0 Q 4 [(3, 282), (1, a1), (1, a2), (0, 0)] [] (mmS h 329 29 (mAdd (h 329 29) 1))) ∧ (¬ ((h 329 29) ≠ 60) → rB d k_m_leads n0 z0 Q 1 [(3, 282), (1, a1), (1, a2), (1, 30)] [] h)) : rB d k_m_leads n0 z0 Q 0 [(3, 282), (1, a1), (1, a2), (0, 0)] [] h :=
  rB_fold (cut := fun i => Nat.beq i 1 || Nat.beq i 4) (f := 40) hy
set_option maxRecDepth 100000 in
theorem T_m_leads_1 (d : Nat) (n0 z0 : Int) (Q : Int → mmH → Prop) (h : mmH) (v1 : Int) (v2 : Int) (v3 : Int) (hy : (207 ≤ v3 → rB d k_m_leads n0 z0 Q 4 [(3, 282), (1, v1), (1, v2), (1, v3)] [] h) ∧ (¬ (207 ≤ v3) → mmD ((0 : Int) ≤ (mAdd v3 3) ∧ (mAdd v3 3) < ((210 : Nat) : Int)) inferInstance (mmD ((0 : Int) ≤ v3 ∧ v3 < ((210 : Nat) : Int)) inferInstance (rB d k_m_leads n0 z0 Q 1 [(3, 282), (1, v1), (1, v2), (1, (mAdd v3 1))] [] (mmS h 329 v3 (h 329 (mAdd v3 3))))))) : rB d k_m_leads n0 z0 Q 1 [(3, 282), (1, v1), (1, v2), (1, v3)] [] h :=
  rB_fold (cut := fun i => Nat.beq i 1 || Nat.beq i 4) (f := 40) hy
set_option maxRecDepth 100000 in
theorem T_m_leads_4 (d : Nat) (n0 z0 : Int) (Q : Int → mmH → Prop) (h : mmH) (v1 : Int) (v2 : Int) (w3 : mmV) (hy : mmD ((0 : Int) ≤ (mSub (mAdd 30 (mMul 3 (h 329 29))) 3) ∧ (mSub (mAdd 30 (mMul 3 (h 329 29))) 3) < ((210 : Nat) : Int)) inferInstance (mmD ((0 : Int) ≤ (mAdd (mSub (mAdd 30 (mMul 3 (h 329 29))) 3) 1) ∧ (mAdd (mSub (mAdd 30 (mMul 3 (h 329 29))) 3) 1) < ((210 : Nat) : Int)) inferInstance (mmD ((0 : Int) ≤ (mAdd (mSub (mAdd 30 (mMul 3 (h 329 29))) 3) 2) ∧ (mAdd (mSub (mAdd 30 (mMul 3 (h 329 29))) 3) 2) < ((210 : Nat) : Int)) inferInstance (Q 0 (mmS (mmS (mmS h 329 (mSub (mAdd 30 (mMul 3 (h 329 29))) 3) (h 329 0)) 329 (mAdd (mSub (mAdd 30 (mMul 3 (h 329 29))) 3) 1) v1) 329 (mAdd (mSub (mAdd 30 (mMul 3 (h 329 29))) 3) 2) v2))))) : rB d k_m_leads n0 z0 Q 4 [(3, 282), (1, v1), (1, v2), w3] [] h :=
  rB_fold (cut := fun i => Nat.beq i 1 || Nat.beq i 4) (f := 40) hy
set_option maxRecDepth 100000 in
theorem T_m_seed_0 (d : Nat) (n0 z0 : Int) (Q : Int → mmH → Prop) (h : mmH) (a1 : Int) (hy : (0 ≤ a1 → Q 1 (mmS h 282 69 a1)) ∧ (¬ (0 ≤ a1) → Q 0 h)) : rB d k_m_seed n0 z0 Q 0 [(3, 282), (1, a1)] [] h :=
  rB_fold (cut := fun i => false) (f := 40) hy
set_option maxRecDepth 100000 in
theorem T_m_night_0 (d : Nat) (n0 z0 : Int) (Q : Int → mmH → Prop) (h : mmH)  (hy : ((h 329 0) ≠ 999 → rC d k_m_keeps [282] h (fun x1 h1 => rB d k_m_night n0 z0 Q 2 [(3, 282), (1, 0), (1, 0), (0, 0)] [] h1)) ∧ (¬ ((h 329 0) ≠ 999) → Q (-1) h)) : rB d k_m_night n0 z0 Q 0 [(3, 282), (0, 0), (0, 0), (0, 0)] [] h :=
  rB_fold (cut := fun i => Nat.beq i 2 || Nat.beq i 6) (f := 40) hy
set_option maxRecDepth 100000 in
theorem T_m_night_2 (d : Nat) (n0 z0 : Int) (Q : Int → mmH → Prop) (h : mmH) (v1 : Int) (v2 : Int) (hy : rC d k_m_personMany [282] h (fun x1 h1 => (x1 ≤ v2 → rC d k_m_drawOf [282, 100] h1 (fun x2 h2 => ((h2 319 1) ≤ x2 → rB d k_m_night n0 z0 Q 6 [(3, 282), (1, v1), (1, 0), (1, 0)] [] h2) ∧ (¬ ((h2 319 1) ≤ x2) → rB d k_m_night n0 z0 Q 6 [(3, 282), (1, v1), (1, 1), (1, 0)] [] h2))) ∧ (¬ (x1 ≤ v2) → rC d k_m_walks [282, v2] h1 (fun x3 h3 => rB d k_m_night n0 z0 Q 2 [(3, 282), (1, (mAdd v1 x3)), (1, (mAdd v2 1)), (0, 0)] [] h3)))) : rB d k_m_night n0 z0 Q 2 [(3, 282), (1, v1), (1, v2), (0, 0)] [] h :=
  rB_fold (cut := fun i => Nat.beq i 2 || Nat.beq i 6) (f := 40) hy
set_option maxRecDepth 100000 in
theorem T_m_night_6 (d : Nat) (n0 z0 : Int) (Q : Int → mmH → Prop) (h : mmH) (v1 : Int) (v2 : Int) (v3 : Int) (hy : rC d k_m_lotMany [282] h (fun x1 h1 => (x1 ≤ v3 → Q v1 (mmS h1 329 0 (mAdd (h1 329 0) 1))) ∧ (¬ (x1 ≤ v3) → (v2 = 0 → rB d k_m_night n0 z0 Q 6 [(3, 282), (1, v1), (1, v2), (1, (mAdd v3 1))] [] h1) ∧ (¬ (v2 = 0) → rC d k_m_tilesOf [282, v3] h1 (fun x2 h2 => (3 ≤ x2 → rB d k_m_night n0 z0 Q 6 [(3, 282), (1, v1), (1, v2), (1, (mAdd v3 1))] [] h2) ∧ (¬ (3 ≤ x2) → rC d k_m_ownerOf [282, v3] h2 (fun x3 h3 => mmD ((0 : Int) ≤ (mAdd 24 x3) ∧ (mAdd 24 x3) < ((210 : Nat) : Int)) inferInstance (mmD ((0 : Int) ≤ (mAdd 24 x3) ∧ (mAdd 24 x3) < ((210 : Nat) : Int)) inferInstance (rB d k_m_night n0 z0 Q 6 [(3, 282), (1, v1), (1, v2), (1, (mAdd v3 1))] [] (mmS h3 329 (mAdd 24 x3) (mSub (h3 329 (mAdd 24 x3)) 1))))))))))) : rB d k_m_night n0 z0 Q 6 [(3, 282), (1, v1), (1, v2), (1, v3)] [] h :=
  rB_fold (cut := fun i => Nat.beq i 2 || Nat.beq i 6) (f := 40) hy
set_option maxRecDepth 100000 in
theorem T_m_drawOf_0 (d : Nat) (n0 z0 : Int) (Q : Int → mmH → Prop) (h : mmH) (a1 : Int) (hy : mmD (a1 ≠ 0) inferInstance (Q (mL2i (nRem (nDiv (nRem (nAdd (nMul 1103515245 (h 282 69)) 12345) 2147483648) 64) a1)) (mmS h 282 69 (nRem (nAdd (nMul 1103515245 (h 282 69)) 12345) 2147483648)))) : rB d k_m_drawOf n0 z0 Q 0 [(3, 282), (1, a1)] [] h :=
  rB_fold (cut := fun i => false) (f := 40) hy
set_option maxRecDepth 100000 in
theorem T_m_patch_0 (d : Nat) (n0 z0 : Int) (Q : Int → mmH → Prop) (h : mmH) (a1 : Int) (a2 : Int) (hy : rC d k_m_isLot [282, a1] h (fun x1 h1 => (x1 = 0 → Q 0 h1) ∧ (¬ (x1 = 0) → rC d k_m_isLot [282, a2] h1 (fun x2 h2 => (x2 = 0 → Q 0 h2) ∧ (¬ (x2 = 0) → (a1 = a2 → Q 0 h2) ∧ (¬ (a1 = a2) → rC d k_m_tilesOf [282, a1] h2 (fun x3 h3 => (x3 = 0 → Q 0 h3) ∧ (¬ (x3 = 0) → rC d k_m_hasStork [282, a1] h3 (fun x4 h4 => (x4 ≠ 0 → Q 0 h4) ∧ (¬ (x4 ≠ 0) → rC d k_m_tilesOf [282, a2] h4 (fun x5 h5 => (x5 ≠ 30 → rC d k_m_keeps [282] h5 (fun x6 h6 => mmD ((0 : Int) ≤ (mAdd 2 a1) ∧ (mAdd 2 a1) < ((210 : Nat) : Int)) inferInstance (mmD ((0 : Int) ≤ (mAdd 2 a1) ∧ (mAdd 2 a1) < ((210 : Nat) : Int)) inferInstance (mmD ((0 : Int) ≤ (mAdd 2 a2) ∧ (mAdd 2 a2) < ((210 : Nat) : Int)) inferInstance (mmD ((0 : Int) ≤ (mAdd 2 a2) ∧ (mAdd 2 a2) < ((210 : Nat) : Int)) inferInstance (Q 1 (mmS (mmS h6 329 (mAdd 2 a1) (mSub (h6 329 (mAdd 2 a1)) 1)) 329 (mAdd 2 a2) (mAdd ((mmS h6 329 (mAdd 2 a1) (mSub (h6 329 (mAdd 2 a1)) 1)) 329 (mAdd 2 a2)) 1)))))))) ∧ (¬ (x5 ≠ 30) → Q 0 h5)))))))))))) : rB d k_m_patch n0 z0 Q 0 [(3, 282), (1, a1), (1, a2)] [] h :=
  rB_fold (cut := fun i => false) (f := 40) hy
set_option maxRecDepth 100000 in
theorem T_m_snow_0 (d : Nat) (n0 z0 : Int) (Q : Int → mmH → Prop) (h : mmH) (a1 : Int) (hy : rC d k_m_isIn [a1, 0, 9] h (fun x1 h1 => (x1 ≠ 0 → rC d k_m_keeps [282] h1 (fun x2 h2 => Q (h1 329 1) (mmS h2 329 1 a1))) ∧ (¬ (x1 ≠ 0) → Q (-1) h1))) : rB d k_m_snow n0 z0 Q 0 [(3, 282), (1, a1), (0, 0)] [] h :=
  rB_fold (cut := fun i => false) (f := 40) hy
set_option maxRecDepth 100000 in
theorem T_m_burns_0 (d : Nat) (n0 z0 : Int) (Q : Int → mmH → Prop) (h : mmH) (a1 : Int) (a2 : Int) (hy : rC d k_m_isLot [282, a1] h (fun x1 h1 => (x1 = 0 → Q (-1) h1) ∧ (¬ (x1 = 0) → rC d k_m_isIn [a2, 0, 20] h1 (fun x2 h2 => (x2 = 0 → Q (-1) h2) ∧ (¬ (x2 = 0) → rC d k_m_tilesOf [282, a1] h2 (fun x3 h3 => (x3 ≤ 0 → Q (-1) h3) ∧ (¬ (x3 ≤ 0) → rC d k_m_firesOn [282, a1, a2] h3 (fun x4 h4 => Q x4 h4)))))))) : rB d k_m_burns n0 z0 Q 0 [(3, 282), (1, a1), (1, a2)] [] h :=
  rB_fold (cut := fun i => false) (f := 40) hy
set_option maxRecDepth 100000 in
theorem T_m_firesOn_0 (d : Nat) (n0 z0 : Int) (Q : Int → mmH → Prop) (h : mmH) (a1 : Int) (a2 : Int) (hy : rB d k_m_firesOn n0 z0 Q 1 [(3, 282), (1, a1), (1, a2), (1, (mShl 1 a1)), (1, 0), (0, 0), (0, 0), (0, 0)] [] h) : rB d k_m_firesOn n0 z0 Q 0 [(3, 282), (1, a1), (1, a2), (0, 0), (0, 0), (0, 0), (0, 0), (0, 0)] [] h :=
  rB_fold (cut := fun i => Nat.beq i 1 || Nat.beq i 2 || Nat.beq i 3) (f := 40) hy
set_option maxRecDepth 100000 in
theorem T_m_firesOn_1 (d : Nat) (n0 z0 : Int) (Q : Int → mmH → Prop) (h : mmH) (v1 : Int) (v2 : Int) (v3 : Int) (v4 : Int) (w5 : mmV) (w6 : mmV) (w7 : mmV) (hy : (v2 ≤ v4 → Q v3 h) ∧ (¬ (v2 ≤ v4) → rB d k_m_firesOn n0 z0 Q 2 [(3, 282), (1, v1), (1, v2), (1, v3), (1, v4), (1, v3), (1, 0), w7] [] h)) : rB d k_m_firesOn n0 z0 Q 1 [(3, 282), (1, v1), (1, v2), (1, v3), (1, v4), w5, w6, w7] [] h :=
  rB_fold (cut := fun i => Nat.beq i 1 || Nat.beq i 2 || Nat.beq i 3) (f := 40) hy
set_option maxRecDepth 100000 in
theorem T_m_firesOn_2 (d : Nat) (n0 z0 : Int) (Q : Int → mmH → Prop) (h : mmH) (v1 : Int) (v2 : Int) (v3 : Int) (v4 : Int) (v5 : Int) (v6 : Int) (w7 : mmV) (hy : rC d k_m_lotMany [282] h (fun x1 h1 => (x1 ≤ v6 → rB d k_m_firesOn n0 z0 Q 1 [(3, 282), (1, v1), (1, v2), (1, v5), (1, (mAdd v4 1)), (1, v5), (1, v6), w7] [] h1) ∧ (¬ (x1 ≤ v6) → rB d k_m_firesOn n0 z0 Q 3 [(3, 282), (1, v1), (1, v2), (1, v3), (1, v4), (1, v5), (1, v6), (1, 0)] [] h1))) : rB d k_m_firesOn n0 z0 Q 2 [(3, 282), (1, v1), (1, v2), (1, v3), (1, v4), (1, v5), (1, v6), w7] [] h :=
  rB_fold (cut := fun i => Nat.beq i 1 || Nat.beq i 2 || Nat.beq i 3) (f := 40) hy
set_option maxRecDepth 100000 in
theorem T_m_firesOn_3 (d : Nat) (n0 z0 : Int) (Q : Int → mmH → Prop) (h : mmH) (v1 : Int) (v2 : Int) (v3 : Int) (v4 : Int) (v5 : Int) (v6 : Int) (v7 : Int) (hy : rC d k_m_lotMany [282] h (fun x1 h1 => (x1 ≤ v7 → rB d k_m_firesOn n0 z0 Q 2 [(3, 282), (1, v1), (1, v2), (1, v3), (1, v4), (1, v5), (1, (mAdd v6 1)), (1, v7)] [] h1) ∧ (¬ (x1 ≤ v7) → ((mAnd (mShr v3 v6) 1) ≠ 1 → rB d k_m_firesOn n0 z0 Q 3 [(3, 282), (1, v1), (1, v2), (1, v3), (1, v4), (1, v5), (1, v6), (1, (mAdd v7 1))] [] h1) ∧ (¬ ((mAnd (mShr v3 v6) 1) ≠ 1) → mmD ((0 : Int) ≤ (mAdd (mAdd 100 (mMul 10 v6)) v7) ∧ (mAdd (mAdd 100 (mMul 10 v6)) v7) < ((200 : Nat) : Int)) inferInstance (rC d k_m_isIn [(h1 316 (mAdd (mAdd 100 (mMul 10 v6)) v7)), 1, 2] h1 (fun x2 h2 => (x2 = 0 → rB d k_m_firesOn n0 z0 Q 3 [(3, 282), (1, v1), (1, v2), (1, v3), (1, v4), (1, v5), (1, v6), (1, (mAdd v7 1))] [] h2) ∧ (¬ (x2 = 0) → rC d k_m_tilesOf [282, v7] h2 (fun x3 h3 => (x3 ≤ 0 → rB d k_m_firesOn n0 z0 Q 3 [(3, 282), (1, v1), (1, v2), (1, v3), (1, v4), (1, v5), (1, v6), (1, (mAdd v7 1))] [] h3) ∧ (¬ (x3 ≤ 0) → rB d k_m_firesOn n0 z0 Q 3 [(3, 282), (1, v1), (1, v2), (1, v3), (1, v4), (1, (mOr v5 (mShl 1 v7))), (1, v6), (1, (mAdd v7 1))] [] h3))))))))) : rB d k_m_firesOn n0 z0 Q 3 [(3, 282), (1, v1), (1, v2), (1, v3), (1, v4), (1, v5), (1, v6), (1, v7)] [] h :=
  rB_fold (cut := fun i => Nat.beq i 1 || Nat.beq i 2 || Nat.beq i 3) (f := 40) hy
set_option maxRecDepth 100000 in
theorem T_m_fire_0 (d : Nat) (n0 z0 : Int) (Q : Int → mmH → Prop) (h : mmH) (a1 : Int) (a2 : Int) (hy : rC d k_m_burns [282, a1, a2] h (fun x1 h1 => (x1 ≠ (-1) → rC d k_m_keeps [282] h1 (fun x2 h2 => rB d k_m_fire n0 z0 Q 2 [(3, 282), (1, a1), (1, a2), (1, x1), (1, 0), (1, 0)] [] h2)) ∧ (¬ (x1 ≠ (-1)) → Q (-1) h1))) : rB d k_m_fire n0 z0 Q 0 [(3, 282), (1, a1), (1, a2), (0, 0), (0, 0), (0, 0)] [] h :=
  rB_fold (cut := fun i => Nat.beq i 2) (f := 40) hy
set_option maxRecDepth 100000 in
theorem T_m_fire_2 (d : Nat) (n0 z0 : Int) (Q : Int → mmH → Prop) (h : mmH) (v1 : Int) (v2 : Int) (v3 : Int) (v4 : Int) (v5 : Int) (hy : rC d k_m_lotMany [282] h (fun x1 h1 => (x1 ≤ v5 → Q v4 h1) ∧ (¬ (x1 ≤ v5) → ((mAnd (mShr v3 v5) 1) ≠ 0 → rC d k_m_tilesOf [282, v5] h1 (fun x2 h2 => mmD ((0 : Int) ≤ (mAdd 2 v5) ∧ (mAdd 2 v5) < ((210 : Nat) : Int)) inferInstance (rB d k_m_fire n0 z0 Q 2 [(3, 282), (1, v1), (1, v2), (1, v3), (1, (mAdd v4 x2)), (1, (mAdd v5 1))] [] (mmS h2 329 (mAdd 2 v5) 0)))) ∧ (¬ ((mAnd (mShr v3 v5) 1) ≠ 0) → rB d k_m_fire n0 z0 Q 2 [(3, 282), (1, v1), (1, v2), (1, v3), (1, v4), (1, (mAdd v5 1))] [] h1)))) : rB d k_m_fire n0 z0 Q 2 [(3, 282), (1, v1), (1, v2), (1, v3), (1, v4), (1, v5)] [] h :=
  rB_fold (cut := fun i => Nat.beq i 2) (f := 40) hy
set_option maxRecDepth 100000 in
theorem T_m_led_0 (d : Nat) (n0 z0 : Int) (Q : Int → mmH → Prop) (h : mmH) (a1 : Int) (a2 : Int) (hy : rC d k_m_isIn [a1, 0, (mSub (h 329 29) 1)] h (fun x1 h1 => (x1 = 0 → Q (-1) h1) ∧ (¬ (x1 = 0) → rC d k_m_isIn [a2, 0, 2] h1 (fun x2 h2 => (x2 = 0 → Q (-1) h2) ∧ (¬ (x2 = 0) → mmD ((0 : Int) ≤ (mAdd (mAdd 30 (mMul 3 a1)) a2) ∧ (mAdd (mAdd 30 (mMul 3 a1)) a2) < ((210 : Nat) : Int)) inferInstance (Q (h2 329 (mAdd (mAdd 30 (mMul 3 a1)) a2)) h2)))))) : rB d k_m_led n0 z0 Q 0 [(3, 282), (1, a1), (1, a2)] [] h :=
  rB_fold (cut := fun i => false) (f := 40) hy
set_option maxRecDepth 100000 in
theorem T_m_stopped_0 (d : Nat) (n0 z0 : Int) (Q : Int → mmH → Prop) (h : mmH) (a1 : Int) (a2 : Int) (hy : rC d k_m_isPerson [282, a1] h (fun x1 h1 => (x1 = 0 → Q (-1) h1) ∧ (¬ (x1 = 0) → rC d k_m_isIn [a2, 0, 1] h1 (fun x2 h2 => (x2 ≠ 0 → rC d k_m_placeOf [282, a1] h2 (fun x3 h3 => rC d k_m_goalOf [282, a1] h3 (fun x4 h4 => rB d k_m_stopped n0 z0 Q 3 [(3, 282), (1, a1), (1, a2), (1, (mOr (mShl 1 x3) (mShl 1 x4))), (1, 0), (0, 0)] [] h4))) ∧ (¬ (x2 ≠ 0) → Q (-1) h2))))) : rB d k_m_stopped n0 z0 Q 0 [(3, 282), (1, a1), (1, a2), (0, 0), (0, 0), (0, 0)] [] h :=
  rB_fold (cut := fun i => Nat.beq i 3 || Nat.beq i 6 || Nat.beq i 7) (f := 40) hy
set_option maxRecDepth 100000 in
theorem T_m_stopped_3 (d : Nat) (n0 z0 : Int) (Q : Int → mmH → Prop) (h : mmH) (v1 : Int) (v2 : Int) (v3 : Int) (v4 : Int) (hy : rC d k_m_lotMany [282] h (fun x1 h1 => (x1 ≤ v4 → rB d k_m_stopped n0 z0 Q 6 [(3, 282), (1, v1), (1, v2), (1, v3), (1, (-1)), (1, 0)] [] h1) ∧ (¬ (x1 ≤ v4) → rC d k_m_hasStork [282, v4] h1 (fun x2 h2 => (x2 = 0 → rB d k_m_stopped n0 z0 Q 3 [(3, 282), (1, v1), (1, v2), (1, v3), (1, (mAdd v4 1)), (0, 0)] [] h2) ∧ (¬ (x2 = 0) → rB d k_m_stopped n0 z0 Q 3 [(3, 282), (1, v1), (1, v2), (1, (mOr v3 (mShl 1 v4))), (1, (mAdd v4 1)), (0, 0)] [] h2))))) : rB d k_m_stopped n0 z0 Q 3 [(3, 282), (1, v1), (1, v2), (1, v3), (1, v4), (0, 0)] [] h :=
  rB_fold (cut := fun i => Nat.beq i 3 || Nat.beq i 6 || Nat.beq i 7) (f := 40) hy
set_option maxRecDepth 100000 in
theorem T_m_stopped_6 (d : Nat) (n0 z0 : Int) (Q : Int → mmH → Prop) (h : mmH) (v1 : Int) (v2 : Int) (v3 : Int) (v4 : Int) (v5 : Int) (hy : rC d k_m_lotMany [282] h (fun x1 h1 => ((mShl 1 x1) ≤ v5 → (v4 ≠ (-1) → (v2 ≠ 0 → Q v4 h1) ∧ (¬ (v2 ≠ 0) → rC d k_m_tilesBy [282, v4] h1 (fun x2 h2 => Q x2 h2))) ∧ (¬ (v4 ≠ (-1)) → Q (-1) h1)) ∧ (¬ ((mShl 1 x1) ≤ v5) → ((mAnd v5 v3) ≠ 0 → rB d k_m_stopped n0 z0 Q 6 [(3, 282), (1, v1), (1, v2), (1, v3), (1, v4), (1, (mAdd v5 1))] [] h1) ∧ (¬ ((mAnd v5 v3) ≠ 0) → (v4 = (-1) → rB d k_m_stopped n0 z0 Q 7 [(3, 282), (1, v1), (1, v2), (1, v3), (1, v4), (1, v5)] [] h1) ∧ (¬ (v4 = (-1)) → rC d k_m_tilesBy [282, v5] h1 (fun x3 h3 => rC d k_m_tilesBy [282, v4] h3 (fun x4 h4 => (x3 < x4 → rB d k_m_stopped n0 z0 Q 7 [(3, 282), (1, v1), (1, v2), (1, v3), (1, v4), (1, v5)] [] h4) ∧ (¬ (x3 < x4) → rB d k_m_stopped n0 z0 Q 6 [(3, 282), (1, v1), (1, v2), (1, v3), (1, v4), (1, (mAdd v5 1))] [] h4)))))))) : rB d k_m_stopped n0 z0 Q 6 [(3, 282), (1, v1), (1, v2), (1, v3), (1, v4), (1, v5)] [] h :=
  rB_fold (cut := fun i => Nat.beq i 3 || Nat.beq i 6 || Nat.beq i 7) (f := 40) hy
set_option maxRecDepth 100000 in
theorem T_m_stopped_7 (d : Nat) (n0 z0 : Int) (Q : Int → mmH → Prop) (h : mmH) (v1 : Int) (v2 : Int) (v3 : Int) (v4 : Int) (v5 : Int) (hy : rC d k_m_comes [282, v1, v5, 0, 31] h (fun x1 h1 => rC d k_m_finds [282, v1, (-1), (-1)] h1 (fun x2 h2 => (x2 ≠ 0 → rB d k_m_stopped n0 z0 Q 6 [(3, 282), (1, v1), (1, v2), (1, v3), (1, v4), (1, (mAdd v5 1))] [] h2) ∧ (¬ (x2 ≠ 0) → rB d k_m_stopped n0 z0 Q 6 [(3, 282), (1, v1), (1, v2), (1, v3), (1, v5), (1, (mAdd v5 1))] [] h2)))) : rB d k_m_stopped n0 z0 Q 7 [(3, 282), (1, v1), (1, v2), (1, v3), (1, v4), (1, v5)] [] h :=
  rB_fold (cut := fun i => Nat.beq i 3 || Nat.beq i 6 || Nat.beq i 7) (f := 40) hy
set_option maxRecDepth 100000 in
theorem T_m_tilesBy_0 (d : Nat) (n0 z0 : Int) (Q : Int → mmH → Prop) (h : mmH) (a1 : Int) (hy : rB d k_m_tilesBy n0 z0 Q 1 [(3, 282), (1, a1), (1, 0), (1, 0)] [] h) : rB d k_m_tilesBy n0 z0 Q 0 [(3, 282), (1, a1), (0, 0), (0, 0)] [] h :=
  rB_fold (cut := fun i => Nat.beq i 1) (f := 40) hy
set_option maxRecDepth 100000 in
theorem T_m_tilesBy_1 (d : Nat) (n0 z0 : Int) (Q : Int → mmH → Prop) (h : mmH) (v1 : Int) (v2 : Int) (v3 : Int) (hy : rC d k_m_lotMany [282] h (fun x1 h1 => (x1 ≤ v3 → Q v2 h1) ∧ (¬ (x1 ≤ v3) → ((mAnd (mShr v1 v3) 1) ≠ 1 → rB d k_m_tilesBy n0 z0 Q 1 [(3, 282), (1, v1), (1, v2), (1, (mAdd v3 1))] [] h1) ∧ (¬ ((mAnd (mShr v1 v3) 1) ≠ 1) → rC d k_m_tilesOf [282, v3] h1 (fun x2 h2 => rB d k_m_tilesBy n0 z0 Q 1 [(3, 282), (1, v1), (1, (mAdd v2 x2)), (1, (mAdd v3 1))] [] h2))))) : rB d k_m_tilesBy n0 z0 Q 1 [(3, 282), (1, v1), (1, v2), (1, v3)] [] h :=
  rB_fold (cut := fun i => Nat.beq i 1) (f := 40) hy
set_option maxRecDepth 100000 in
theorem T_m_opened_0 (d : Nat) (n0 z0 : Int) (Q : Int → mmH → Prop) (h : mmH) (a1 : Int) (a2 : Int) (hy : rC d k_m_isPerson [282, a1] h (fun x1 h1 => (x1 = 0 → Q (-1) h1) ∧ (¬ (x1 = 0) → rC d k_m_isIn [a2, 0, 1] h1 (fun x2 h2 => (x2 ≠ 0 → rC d k_m_holes [282] h2 (fun x3 h3 => rB d k_m_opened n0 z0 Q 3 [(3, 282), (1, a1), (1, a2), (1, x3), (1, (-1)), (1, 0)] [] h3)) ∧ (¬ (x2 ≠ 0) → Q (-1) h2))))) : rB d k_m_opened n0 z0 Q 0 [(3, 282), (1, a1), (1, a2), (0, 0), (0, 0), (0, 0)] [] h :=
  rB_fold (cut := fun i => Nat.beq i 3 || Nat.beq i 4) (f := 40) hy
set_option maxRecDepth 100000 in
theorem T_m_opened_3 (d : Nat) (n0 z0 : Int) (Q : Int → mmH → Prop) (h : mmH) (v1 : Int) (v2 : Int) (v3 : Int) (v4 : Int) (v5 : Int) (hy : rC d k_m_lotMany [282] h (fun x1 h1 => ((mShl 1 x1) ≤ v5 → (v4 ≠ (-1) → (v2 ≠ 0 → Q v4 h1) ∧ (¬ (v2 ≠ 0) → rC d k_m_bits [v4] h1 (fun x2 h2 => Q x2 h2))) ∧ (¬ (v4 ≠ (-1)) → Q (-1) h1)) ∧ (¬ ((mShl 1 x1) ≤ v5) → ((mAnd v5 (mXor v3 (-1))) ≠ 0 → rB d k_m_opened n0 z0 Q 3 [(3, 282), (1, v1), (1, v2), (1, v3), (1, v4), (1, (mAdd v5 1))] [] h1) ∧ (¬ ((mAnd v5 (mXor v3 (-1))) ≠ 0) → (v4 = (-1) → rB d k_m_opened n0 z0 Q 4 [(3, 282), (1, v1), (1, v2), (1, v3), (1, v4), (1, v5)] [] h1) ∧ (¬ (v4 = (-1)) → rC d k_m_bits [v5] h1 (fun x3 h3 => rC d k_m_bits [v4] h3 (fun x4 h4 => (x3 < x4 → rB d k_m_opened n0 z0 Q 4 [(3, 282), (1, v1), (1, v2), (1, v3), (1, v4), (1, v5)] [] h4) ∧ (¬ (x3 < x4) → rB d k_m_opened n0 z0 Q 3 [(3, 282), (1, v1), (1, v2), (1, v3), (1, v4), (1, (mAdd v5 1))] [] h4)))))))) : rB d k_m_opened n0 z0 Q 3 [(3, 282), (1, v1), (1, v2), (1, v3), (1, v4), (1, v5)] [] h :=
  rB_fold (cut := fun i => Nat.beq i 3 || Nat.beq i 4) (f := 40) hy
set_option maxRecDepth 100000 in
theorem T_m_opened_4 (d : Nat) (n0 z0 : Int) (Q : Int → mmH → Prop) (h : mmH) (v1 : Int) (v2 : Int) (v3 : Int) (v4 : Int) (v5 : Int) (hy : rC d k_m_comes [282, v1, 0, v5, 31] h (fun x1 h1 => rC d k_m_finds [282, v1, (-1), (-1)] h1 (fun x2 h2 => (x2 = 0 → rB d k_m_opened n0 z0 Q 3 [(3, 282), (1, v1), (1, v2), (1, v3), (1, v4), (1, (mAdd v5 1))] [] h2) ∧ (¬ (x2 = 0) → rB d k_m_opened n0 z0 Q 3 [(3, 282), (1, v1), (1, v2), (1, v3), (1, v5), (1, (mAdd v5 1))] [] h2)))) : rB d k_m_opened n0 z0 Q 4 [(3, 282), (1, v1), (1, v2), (1, v3), (1, v4), (1, v5)] [] h :=
  rB_fold (cut := fun i => Nat.beq i 3 || Nat.beq i 4) (f := 40) hy
set_option maxRecDepth 100000 in
theorem T_m_broke_0 (d : Nat) (n0 z0 : Int) (Q : Int → mmH → Prop) (h : mmH) (a1 : Int) (a2 : Int) (a3 : Int) (hy : rC d k_m_isLot [282, a1] h (fun x1 h1 => (x1 = 0 → Q (-1) h1) ∧ (¬ (x1 = 0) → rC d k_m_isIn [a2, 0, 9] h1 (fun x2 h2 => (x2 = 0 → Q (-1) h2) ∧ (¬ (x2 = 0) → rC d k_m_personMany [282] h2 (fun x3 h3 => rC d k_m_isIn [a3, (-1), (mSub x3 1)] h3 (fun x4 h4 => (x4 ≠ 0 → rB d k_m_broke n0 z0 Q 3 [(3, 282), (1, a1), (1, a2), (1, a3), (1, 0), (1, 0)] [] h4) ∧ (¬ (x4 ≠ 0) → (a3 = 20 → rB d k_m_broke n0 z0 Q 3 [(3, 282), (1, a1), (1, a2), (1, a3), (1, 0), (1, 0)] [] h4) ∧ (¬ (a3 = 20) → Q (-1) h4))))))))) : rB d k_m_broke n0 z0 Q 0 [(3, 282), (1, a1), (1, a2), (1, a3), (0, 0), (0, 0)] [] h :=
  rB_fold (cut := fun i => Nat.beq i 3) (f := 40) hy
set_option maxRecDepth 100000 in
theorem T_m_broke_3 (d : Nat) (n0 z0 : Int) (Q : Int → mmH → Prop) (h : mmH) (v1 : Int) (v2 : Int) (v3 : Int) (v4 : Int) (v5 : Int) (hy : rC d k_m_personMany [282] h (fun x1 h1 => (x1 ≤ v5 → (v3 ≠ (-1) → (v3 ≠ 20 → ((mAnd (mShr v4 v3) 1) ≠ 1 → Q 0 h1) ∧ (¬ ((mAnd (mShr v4 v3) 1) ≠ 1) → rC d k_m_bits [v4] h1 (fun x2 h2 => mmD (x2 ≠ 0) inferInstance (Q (mDiv 1000 x2) h2)))) ∧ (¬ (v3 ≠ 20) → Q v4 h1)) ∧ (¬ (v3 ≠ (-1)) → rC d k_m_bits [v4] h1 (fun x3 h3 => Q x3 h3))) ∧ (¬ (x1 ≤ v5) → rC d k_m_personOf [282, v5, 3] h1 (fun x4 h4 => (x4 ≠ v2 → rB d k_m_broke n0 z0 Q 3 [(3, 282), (1, v1), (1, v2), (1, v3), (1, v4), (1, (mAdd v5 1))] [] h4) ∧ (¬ (x4 ≠ v2) → rC d k_m_breaks [282, v5, v1] h4 (fun x5 h5 => (x5 = 0 → rB d k_m_broke n0 z0 Q 3 [(3, 282), (1, v1), (1, v2), (1, v3), (1, v4), (1, (mAdd v5 1))] [] h5) ∧ (¬ (x5 = 0) → rC d k_m_comesTo [282, v5, v1] h5 (fun x6 h6 => (x6 = 0 → rB d k_m_broke n0 z0 Q 3 [(3, 282), (1, v1), (1, v2), (1, v3), (1, v4), (1, (mAdd v5 1))] [] h6) ∧ (¬ (x6 = 0) → rB d k_m_broke n0 z0 Q 3 [(3, 282), (1, v1), (1, v2), (1, v3), (1, (mOr v4 (mShl 1 v5))), (1, (mAdd v5 1))] [] h6))))))))) : rB d k_m_broke n0 z0 Q 3 [(3, 282), (1, v1), (1, v2), (1, v3), (1, v4), (1, v5)] [] h :=
  rB_fold (cut := fun i => Nat.beq i 3) (f := 40) hy
set_option maxRecDepth 100000 in
theorem T_m_comesTo_0 (d : Nat) (n0 z0 : Int) (Q : Int → mmH → Prop) (h : mmH) (a1 : Int) (a2 : Int) (hy : rC d k_m_hasWay [282, a1] h (fun x1 h1 => (x1 ≠ 0 → rC d k_m_placeOf [282, a1] h1 (fun x2 h2 => rB d k_m_comesTo n0 z0 Q 2 [(3, 282), (1, a1), (1, a2), (1, x2)] [] h2)) ∧ (¬ (x1 ≠ 0) → Q 0 h1))) : rB d k_m_comesTo n0 z0 Q 0 [(3, 282), (1, a1), (1, a2), (0, 0)] [] h :=
  rB_fold (cut := fun i => Nat.beq i 2) (f := 40) hy
set_option maxRecDepth 100000 in
theorem T_m_comesTo_2 (d : Nat) (n0 z0 : Int) (Q : Int → mmH → Prop) (h : mmH) (v1 : Int) (v2 : Int) (v3 : Int) (hy : rC d k_m_goalOf [282, v1] h (fun x1 h1 => (v3 = x1 → Q 0 h1) ∧ (¬ (v3 = x1) → rC d k_m_nextOf [282, v1, v3] h1 (fun x2 h2 => (x2 ≠ v2 → rB d k_m_comesTo n0 z0 Q 2 [(3, 282), (1, v1), (1, v2), (1, x2)] [] h2) ∧ (¬ (x2 ≠ v2) → Q 1 h2))))) : rB d k_m_comesTo n0 z0 Q 2 [(3, 282), (1, v1), (1, v2), (1, v3)] [] h :=
  rB_fold (cut := fun i => Nat.beq i 2) (f := 40) hy
set_option maxRecDepth 100000 in
theorem T_m_worth_0 (d : Nat) (n0 z0 : Int) (Q : Int → mmH → Prop) (h : mmH) (a1 : Int) (a2 : Int) (hy : rC d k_m_gap [282, a1, a2] h (fun x1 h1 => (x1 ≠ (-1) → rC d k_m_coinsAll [282, a1, a2] h1 (fun x2 h2 => rC d k_m_coinsAll [282, (-1), (-1)] h2 (fun x3 h3 => Q (mSub x2 x3) h3))) ∧ (¬ (x1 ≠ (-1)) → Q (-1000000000) h1))) : rB d k_m_worth n0 z0 Q 0 [(3, 282), (1, a1), (1, a2), (0, 0)] [] h :=
  rB_fold (cut := fun i => false) (f := 40) hy
set_option maxRecDepth 100000 in
theorem T_m_coinsAll_0 (d : Nat) (n0 z0 : Int) (Q : Int → mmH → Prop) (h : mmH) (a1 : Int) (a2 : Int) (hy : rB d k_m_coinsAll n0 z0 Q 1 [(3, 282), (1, a1), (1, a2), (1, 0), (1, 0)] [] h) : rB d k_m_coinsAll n0 z0 Q 0 [(3, 282), (1, a1), (1, a2), (0, 0), (0, 0)] [] h :=
  rB_fold (cut := fun i => Nat.beq i 1) (f := 40) hy
set_option maxRecDepth 100000 in
theorem T_m_coinsAll_1 (d : Nat) (n0 z0 : Int) (Q : Int → mmH → Prop) (h : mmH) (v1 : Int) (v2 : Int) (v3 : Int) (v4 : Int) (hy : rC d k_m_personMany [282] h (fun x1 h1 => (x1 ≤ v4 → Q v3 h1) ∧ (¬ (x1 ≤ v4) → rC d k_m_comes [282, v4, 0, 0, 31] h1 (fun x2 h2 => rC d k_m_finds [282, v4, v1, v2] h2 (fun x3 h3 => (x3 = 0 → rB d k_m_coinsAll n0 z0 Q 1 [(3, 282), (1, v1), (1, v2), (1, (mAdd v3 1000)), (1, (mAdd v4 1))] [] h3) ∧ (¬ (x3 = 0) → rC d k_m_placeOf [282, v4] h3 (fun x4 h4 => mmD ((0 : Int) ≤ x4 ∧ x4 < ((10 : Nat) : Int)) inferInstance (rB d k_m_coinsAll n0 z0 Q 1 [(3, 282), (1, v1), (1, v2), (1, (mAdd v3 (h4 332 x4))), (1, (mAdd v4 1))] [] h4)))))))) : rB d k_m_coinsAll n0 z0 Q 1 [(3, 282), (1, v1), (1, v2), (1, v3), (1, v4)] [] h :=
  rB_fold (cut := fun i => Nat.beq i 1) (f := 40) hy
set_option maxRecDepth 100000 in
theorem T_m_reach_0 (d : Nat) (n0 z0 : Int) (Q : Int → mmH → Prop) (h : mmH) (a1 : Int) (hy : rC d k_m_isPerson [282, a1] h (fun x1 h1 => (x1 ≠ 0 → rC d k_m_comes [282, a1, 0, 0, 31] h1 (fun x2 h2 => rC d k_m_placeOf [282, a1] h2 (fun x3 h3 => rB d k_m_reach n0 z0 Q 2 [(3, 282), (1, a1), (1, (mShl 1 x3)), (1, 0), (0, 0), (0, 0)] [] h3))) ∧ (¬ (x1 ≠ 0) → Q (-1) h1))) : rB d k_m_reach n0 z0 Q 0 [(3, 282), (1, a1), (0, 0), (0, 0), (0, 0), (0, 0)] [] h :=
  rB_fold (cut := fun i => Nat.beq i 2 || Nat.beq i 3 || Nat.beq i 4) (f := 40) hy
set_option maxRecDepth 100000 in
theorem T_m_reach_2 (d : Nat) (n0 z0 : Int) (Q : Int → mmH → Prop) (h : mmH) (v1 : Int) (v2 : Int) (v3 : Int) (w4 : mmV) (w5 : mmV) (hy : rC d k_m_lotMany [282] h (fun x1 h1 => (x1 ≤ v3 → Q v2 h1) ∧ (¬ (x1 ≤ v3) → rB d k_m_reach n0 z0 Q 3 [(3, 282), (1, v1), (1, v2), (1, v3), (1, 0), w5] [] h1))) : rB d k_m_reach n0 z0 Q 2 [(3, 282), (1, v1), (1, v2), (1, v3), w4, w5] [] h :=
  rB_fold (cut := fun i => Nat.beq i 2 || Nat.beq i 3 || Nat.beq i 4) (f := 40) hy
set_option maxRecDepth 100000 in
theorem T_m_reach_3 (d : Nat) (n0 z0 : Int) (Q : Int → mmH → Prop) (h : mmH) (v1 : Int) (v2 : Int) (v3 : Int) (v4 : Int) (w5 : mmV) (hy : rC d k_m_lotMany [282] h (fun x1 h1 => (x1 ≤ v4 → rB d k_m_reach n0 z0 Q 2 [(3, 282), (1, v1), (1, v2), (1, (mAdd v3 1)), (1, v4), w5] [] h1) ∧ (¬ (x1 ≤ v4) → rB d k_m_reach n0 z0 Q 4 [(3, 282), (1, v1), (1, v2), (1, v3), (1, v4), (1, 0)] [] h1))) : rB d k_m_reach n0 z0 Q 3 [(3, 282), (1, v1), (1, v2), (1, v3), (1, v4), w5] [] h :=
  rB_fold (cut := fun i => Nat.beq i 2 || Nat.beq i 3 || Nat.beq i 4) (f := 40) hy
set_option maxRecDepth 100000 in
theorem T_m_reach_4 (d : Nat) (n0 z0 : Int) (Q : Int → mmH → Prop) (h : mmH) (v1 : Int) (v2 : Int) (v3 : Int) (v4 : Int) (v5 : Int) (hy : rC d k_m_lotMany [282] h (fun x1 h1 => (x1 ≤ v5 → rB d k_m_reach n0 z0 Q 3 [(3, 282), (1, v1), (1, v2), (1, v3), (1, (mAdd v4 1)), (1, v5)] [] h1) ∧ (¬ (x1 ≤ v5) → ((mAnd (mShr v2 v4) 1) ≠ 1 → rB d k_m_reach n0 z0 Q 4 [(3, 282), (1, v1), (1, v2), (1, v3), (1, v4), (1, (mAdd v5 1))] [] h1) ∧ (¬ ((mAnd (mShr v2 v4) 1) ≠ 1) → mmD ((0 : Int) ≤ v5 ∧ v5 < ((10 : Nat) : Int)) inferInstance (((h1 330 v5) = 0 → rB d k_m_reach n0 z0 Q 4 [(3, 282), (1, v1), (1, v2), (1, v3), (1, v4), (1, (mAdd v5 1))] [] h1) ∧ (¬ ((h1 330 v5) = 0) → rC d k_m_isNear [282, v1, v4, v5] h1 (fun x2 h2 => (x2 = 0 → rB d k_m_reach n0 z0 Q 4 [(3, 282), (1, v1), (1, v2), (1, v3), (1, v4), (1, (mAdd v5 1))] [] h2) ∧ (¬ (x2 = 0) → rB d k_m_reach n0 z0 Q 4 [(3, 282), (1, v1), (1, (mOr v2 (mShl 1 v5))), (1, v3), (1, v4), (1, (mAdd v5 1))] [] h2)))))))) : rB d k_m_reach n0 z0 Q 4 [(3, 282), (1, v1), (1, v2), (1, v3), (1, v4), (1, v5)] [] h :=
  rB_fold (cut := fun i => Nat.beq i 2 || Nat.beq i 3 || Nat.beq i 4) (f := 40) hy
set_option maxRecDepth 100000 in
theorem T_m_leaks_0 (d : Nat) (n0 z0 : Int) (Q : Int → mmH → Prop) (h : mmH)  (hy : rB d k_m_leaks n0 z0 Q 1 [(3, 282), (1, 0), (1, 0)] [] h) : rB d k_m_leaks n0 z0 Q 0 [(3, 282), (0, 0), (0, 0)] [] h :=
  rB_fold (cut := fun i => Nat.beq i 1) (f := 40) hy
set_option maxRecDepth 100000 in
theorem T_m_leaks_1 (d : Nat) (n0 z0 : Int) (Q : Int → mmH → Prop) (h : mmH) (v1 : Int) (v2 : Int) (hy : rC d k_m_lotMany [282] h (fun x1 h1 => (x1 ≤ v2 → Q v1 h1) ∧ (¬ (x1 ≤ v2) → rC d k_m_tilesOf [282, v2] h1 (fun x2 h2 => (3 ≤ x2 → rB d k_m_leaks n0 z0 Q 1 [(3, 282), (1, v1), (1, (mAdd v2 1))] [] h2) ∧ (¬ (3 ≤ x2) → rB d k_m_leaks n0 z0 Q 1 [(3, 282), (1, (mOr v1 (mShl 1 v2))), (1, (mAdd v2 1))] [] h2))))) : rB d k_m_leaks n0 z0 Q 1 [(3, 282), (1, v1), (1, v2)] [] h :=
  rB_fold (cut := fun i => Nat.beq i 1) (f := 40) hy
set_option maxRecDepth 100000 in
theorem T_m_image_0 (d : Nat) (n0 z0 : Int) (Q : Int → mmH → Prop) (h : mmH)  (hy : rC d k_m_writes [282, (mDiv (h 329 0) 256)] (mmS h 282 71 0) (fun x1 h1 => rC d k_m_writes [282, (mRem (h1 329 0) 256)] h1 (fun x2 h2 => rC d k_m_writes [282, (h2 329 1)] h2 (fun x3 h3 => rB d k_m_image n0 z0 Q 1 [(3, 282), (1, 0), (0, 0)] [] h3)))) : rB d k_m_image n0 z0 Q 0 [(3, 282), (0, 0), (0, 0)] [] h :=
  rB_fold (cut := fun i => Nat.beq i 1 || Nat.beq i 3 || Nat.beq i 5 || Nat.beq i 6) (f := 40) hy
set_option maxRecDepth 100000 in
theorem T_m_image_1 (d : Nat) (n0 z0 : Int) (Q : Int → mmH → Prop) (h : mmH) (v1 : Int) (hy : rC d k_m_lotMany [282] h (fun x1 h1 => (x1 ≤ v1 → rB d k_m_image n0 z0 Q 3 [(3, 282), (1, 0), (0, 0)] [] h1) ∧ (¬ (x1 ≤ v1) → rC d k_m_tilesOf [282, v1] h1 (fun x2 h2 => rC d k_m_writes [282, x2] h2 (fun x3 h3 => rB d k_m_image n0 z0 Q 1 [(3, 282), (1, (mAdd v1 1)), (0, 0)] [] h3))))) : rB d k_m_image n0 z0 Q 1 [(3, 282), (1, v1), (0, 0)] [] h :=
  rB_fold (cut := fun i => Nat.beq i 1 || Nat.beq i 3 || Nat.beq i 5 || Nat.beq i 6) (f := 40) hy
set_option maxRecDepth 100000 in
theorem T_m_image_3 (d : Nat) (n0 z0 : Int) (Q : Int → mmH → Prop) (h : mmH) (v1 : Int) (hy : rC d k_m_personMany [282] h (fun x1 h1 => ((mMul 2 x1) ≤ v1 → rB d k_m_image n0 z0 Q 5 [(3, 282), (1, 0), (0, 0)] [] h1) ∧ (¬ ((mMul 2 x1) ≤ v1) → mmD ((0 : Int) ≤ (mAdd 12 v1) ∧ (mAdd 12 v1) < ((210 : Nat) : Int)) inferInstance (rC d k_m_writes [282, (h1 329 (mAdd 12 v1))] h1 (fun x2 h2 => rB d k_m_image n0 z0 Q 3 [(3, 282), (1, (mAdd v1 1)), (0, 0)] [] h2))))) : rB d k_m_image n0 z0 Q 3 [(3, 282), (1, v1), (0, 0)] [] h :=
  rB_fold (cut := fun i => Nat.beq i 1 || Nat.beq i 3 || Nat.beq i 5 || Nat.beq i 6) (f := 40) hy
set_option maxRecDepth 100000 in
theorem T_m_image_5 (d : Nat) (n0 z0 : Int) (Q : Int → mmH → Prop) (h : mmH) (v1 : Int) (w2 : mmV) (hy : rC d k_m_ownerMany [282] h (fun x1 h1 => (x1 ≤ v1 → rC d k_m_checked [335, (h1 282 71)] h1 (fun x2 h2 => rC d k_m_writes [282, x2] h2 (fun x3 h3 => Q (h3 282 71) h3))) ∧ (¬ (x1 ≤ v1) → rB d k_m_image n0 z0 Q 6 [(3, 282), (1, v1), (1, 24)] [] h1))) : rB d k_m_image n0 z0 Q 5 [(3, 282), (1, v1), w2] [] h :=
  rB_fold (cut := fun i => Nat.beq i 1 || Nat.beq i 3 || Nat.beq i 5 || Nat.beq i 6) (f := 40) hy
set_option maxRecDepth 100000 in
theorem T_m_image_6 (d : Nat) (n0 z0 : Int) (Q : Int → mmH → Prop) (h : mmH) (v1 : Int) (v2 : Int) (hy : (v2 < 0 → rB d k_m_image n0 z0 Q 5 [(3, 282), (1, (mAdd v1 1)), (1, v2)] [] h) ∧ (¬ (v2 < 0) → mmD ((0 : Int) ≤ (mAdd 24 v1) ∧ (mAdd 24 v1) < ((210 : Nat) : Int)) inferInstance (rC d k_m_writes [282, (mAnd (mShr (h 329 (mAdd 24 v1)) v2) 255)] h (fun x1 h1 => rB d k_m_image n0 z0 Q 6 [(3, 282), (1, v1), (1, (mAdd v2 (-8)))] [] h1)))) : rB d k_m_image n0 z0 Q 6 [(3, 282), (1, v1), (1, v2)] [] h :=
  rB_fold (cut := fun i => Nat.beq i 1 || Nat.beq i 3 || Nat.beq i 5 || Nat.beq i 6) (f := 40) hy
set_option maxRecDepth 100000 in
theorem T_m_writes_0 (d : Nat) (n0 z0 : Int) (Q : Int → mmH → Prop) (h : mmH) (a1 : Int) (hy : mmD ((0 : Int) ≤ (h 282 71) ∧ (h 282 71) < ((46 : Nat) : Int)) inferInstance (Q 0 (mmS (mmS h 335 (h 282 71) a1) 282 71 (mAdd (h 282 71) 1)))) : rB d k_m_writes n0 z0 Q 0 [(3, 282), (1, a1)] [] h :=
  rB_fold (cut := fun i => false) (f := 40) hy
set_option maxRecDepth 100000 in
theorem T_m_checked_0 (d : Nat) (n0 z0 : Int) (Q : Int → mmH → Prop) (h : mmH) (a0 : Int) (a1 : Int) (hy : rB d k_m_checked n0 z0 Q 1 [(3, a0), (1, a1), (1, 131), (1, 0)] [] h) : rB d k_m_checked n0 z0 Q 0 [(3, a0), (1, a1), (0, 0), (0, 0)] [] h :=
  rB_fold (cut := fun i => Nat.beq i 1) (f := 40) hy
set_option maxRecDepth 100000 in
theorem T_m_checked_1 (d : Nat) (n0 z0 : Int) (Q : Int → mmH → Prop) (h : mmH) (v0 : Int) (v1 : Int) (v2 : Int) (v3 : Int) (hy : (v1 ≤ v3 → Q v2 h) ∧ (¬ (v1 ≤ v3) → mmG (Nat.beq (tSh v0).1 100) (mmD ((0 : Int) ≤ v3 ∧ v3 < ((tSh v0).2 : Int)) inferInstance (rB d k_m_checked n0 z0 Q 1 [(3, v0), (1, v1), (1, (mRem (mAdd (mMul 3 v2) ((tFc v0 v3).getD (h v0 v3))) 253)), (1, (mAdd v3 1))] [] h)))) : rB d k_m_checked n0 z0 Q 1 [(3, v0), (1, v1), (1, v2), (1, v3)] [] h :=
  rB_fold (cut := fun i => Nat.beq i 1) (f := 40) hy
set_option maxRecDepth 100000 in
theorem T_m_octet_0 (d : Nat) (n0 z0 : Int) (Q : Int → mmH → Prop) (h : mmH) (a1 : Int) (hy : (a1 < 0 → Q (-1) h) ∧ (¬ (a1 < 0) → ((h 282 71) ≤ a1 → Q (-1) h) ∧ (¬ ((h 282 71) ≤ a1) → mmD ((0 : Int) ≤ a1 ∧ a1 < ((46 : Nat) : Int)) inferInstance (Q (h 335 a1) h)))) : rB d k_m_octet n0 z0 Q 0 [(3, 282), (1, a1)] [] h :=
  rB_fold (cut := fun i => false) (f := 40) hy
set_option maxRecDepth 100000 in
theorem T_m_on_0 (d : Nat) (n0 z0 : Int) (Q : Int → mmH → Prop) (h : mmH)  (hy : rC d k_m_isTold [282, (h 282 1)] (mmS h 282 1 0) (fun x1 h1 => (x1 ≠ 0 → rB d k_m_on n0 z0 Q 2 [(3, 282), (1, (h 282 1)), (1, 0), (0, 0), (0, 0), (0, 0)] [] (mmS (mmS h1 329 0 (mAdd (mMul 256 (h1 283 0)) (h1 283 1))) 329 1 (h1 283 2))) ∧ (¬ (x1 ≠ 0) → Q 0 h1))) : rB d k_m_on n0 z0 Q 0 [(3, 282), (0, 0), (0, 0), (0, 0), (0, 0), (0, 0)] [] h :=
  rB_fold (cut := fun i => Nat.beq i 2 || Nat.beq i 4 || Nat.beq i 6 || Nat.beq i 7) (f := 40) hy
set_option maxRecDepth 100000 in
theorem T_m_on_2 (d : Nat) (n0 z0 : Int) (Q : Int → mmH → Prop) (h : mmH) (v1 : Int) (v2 : Int) (hy : rC d k_m_lotMany [282] h (fun x1 h1 => (x1 ≤ v2 → rB d k_m_on n0 z0 Q 4 [(3, 282), (1, v1), (1, 0), (0, 0), (0, 0), (0, 0)] [] h1) ∧ (¬ (x1 ≤ v2) → mmD ((0 : Int) ≤ (mAdd 3 v2) ∧ (mAdd 3 v2) < ((1600 : Nat) : Int)) inferInstance (mmD ((0 : Int) ≤ (mAdd 2 v2) ∧ (mAdd 2 v2) < ((210 : Nat) : Int)) inferInstance (rB d k_m_on n0 z0 Q 2 [(3, 282), (1, v1), (1, (mAdd v2 1)), (0, 0), (0, 0), (0, 0)] [] (mmS h1 329 (mAdd 2 v2) (h1 283 (mAdd 3 v2)))))))) : rB d k_m_on n0 z0 Q 2 [(3, 282), (1, v1), (1, v2), (0, 0), (0, 0), (0, 0)] [] h :=
  rB_fold (cut := fun i => Nat.beq i 2 || Nat.beq i 4 || Nat.beq i 6 || Nat.beq i 7) (f := 40) hy
set_option maxRecDepth 100000 in
theorem T_m_on_4 (d : Nat) (n0 z0 : Int) (Q : Int → mmH → Prop) (h : mmH) (v1 : Int) (v2 : Int) (hy : rC d k_m_personMany [282] h (fun x1 h1 => ((mMul 2 x1) ≤ v2 → rC d k_m_lotMany [282] h1 (fun x2 h2 => rC d k_m_personMany [282] h2 (fun x3 h3 => rB d k_m_on n0 z0 Q 6 [(3, 282), (1, v1), (1, (mAdd (mAdd 3 x2) (mMul 2 x3))), (1, 0), (0, 0), (0, 0)] [] h3))) ∧ (¬ ((mMul 2 x1) ≤ v2) → rC d k_m_lotMany [282] h1 (fun x4 h4 => mmD ((0 : Int) ≤ (mAdd (mAdd 3 x4) v2) ∧ (mAdd (mAdd 3 x4) v2) < ((1600 : Nat) : Int)) inferInstance (mmD ((0 : Int) ≤ (mAdd 12 v2) ∧ (mAdd 12 v2) < ((210 : Nat) : Int)) inferInstance (rB d k_m_on n0 z0 Q 4 [(3, 282), (1, v1), (1, (mAdd v2 1)), (0, 0), (0, 0), (0, 0)] [] (mmS h4 329 (mAdd 12 v2) (h4 283 (mAdd (mAdd 3 x4) v2))))))))) : rB d k_m_on n0 z0 Q 4 [(3, 282), (1, v1), (1, v2), (0, 0), (0, 0), (0, 0)] [] h :=
  rB_fold (cut := fun i => Nat.beq i 2 || Nat.beq i 4 || Nat.beq i 6 || Nat.beq i 7) (f := 40) hy
set_option maxRecDepth 100000 in
theorem T_m_on_6 (d : Nat) (n0 z0 : Int) (Q : Int → mmH → Prop) (h : mmH) (v1 : Int) (v2 : Int) (v3 : Int) (w4 : mmV) (w5 : mmV) (hy : rC d k_m_ownerMany [282] h (fun x1 h1 => (x1 ≤ v3 → Q 1 (mmS (mmS h1 329 29 0) 282 67 0)) ∧ (¬ (x1 ≤ v3) → rB d k_m_on n0 z0 Q 7 [(3, 282), (1, v1), (1, v2), (1, v3), (1, 0), (1, 0)] [] h1))) : rB d k_m_on n0 z0 Q 6 [(3, 282), (1, v1), (1, v2), (1, v3), w4, w5] [] h :=
  rB_fold (cut := fun i => Nat.beq i 2 || Nat.beq i 4 || Nat.beq i 6 || Nat.beq i 7) (f := 40) hy
set_option maxRecDepth 100000 in
theorem T_m_on_7 (d : Nat) (n0 z0 : Int) (Q : Int → mmH → Prop) (h : mmH) (v1 : Int) (v2 : Int) (v3 : Int) (v4 : Int) (v5 : Int) (hy : (4 ≤ v5 → mmD ((0 : Int) ≤ (mAdd 24 v3) ∧ (mAdd 24 v3) < ((210 : Nat) : Int)) inferInstance (rB d k_m_on n0 z0 Q 6 [(3, 282), (1, v1), (1, v2), (1, (mAdd v3 1)), (1, v4), (1, v5)] [] (mmS h 329 (mAdd 24 v3) v4))) ∧ (¬ (4 ≤ v5) → mmD ((0 : Int) ≤ (mAdd (mAdd v2 (mMul 4 v3)) v5) ∧ (mAdd (mAdd v2 (mMul 4 v3)) v5) < ((1600 : Nat) : Int)) inferInstance (rB d k_m_on n0 z0 Q 7 [(3, 282), (1, v1), (1, v2), (1, v3), (1, (mOr (mShl v4 8) (h 283 (mAdd (mAdd v2 (mMul 4 v3)) v5)))), (1, (mAdd v5 1))] [] h))) : rB d k_m_on n0 z0 Q 7 [(3, 282), (1, v1), (1, v2), (1, v3), (1, v4), (1, v5)] [] h :=
  rB_fold (cut := fun i => Nat.beq i 2 || Nat.beq i 4 || Nat.beq i 6 || Nat.beq i 7) (f := 40) hy
set_option maxRecDepth 100000 in
theorem T_m_isTold_0 (d : Nat) (n0 z0 : Int) (Q : Int → mmH → Prop) (h : mmH) (a1 : Int) (hy : rC d k_m_lotMany [282] h (fun x1 h1 => rC d k_m_personMany [282] h1 (fun x2 h2 => rC d k_m_ownerMany [282] h2 (fun x3 h3 => (a1 ≠ (mAdd (mAdd (mAdd 4 x1) (mMul 2 x2)) (mMul 4 x3)) → Q 0 h3) ∧ (¬ (a1 ≠ (mAdd (mAdd (mAdd 4 x1) (mMul 2 x2)) (mMul 4 x3))) → mmD ((0 : Int) ≤ (mSub a1 1) ∧ (mSub a1 1) < ((1600 : Nat) : Int)) inferInstance (rC d k_m_checked [283, (mSub a1 1)] h3 (fun x4 h4 => ((h3 283 (mSub a1 1)) ≠ x4 → Q 0 h4) ∧ (¬ ((h3 283 (mSub a1 1)) ≠ x4) → (999 < (mAdd (mMul 256 (h4 283 0)) (h4 283 1)) → Q 0 h4) ∧ (¬ (999 < (mAdd (mMul 256 (h4 283 0)) (h4 283 1))) → ((h4 283 2) ≤ 9 → rB d k_m_isTold n0 z0 Q 3 [(3, 282), (1, a1), (1, (mAdd (mAdd (mAdd 4 x1) (mMul 2 x2)) (mMul 4 x3))), (1, 0), (0, 0), (0, 0), (0, 0), (0, 0)] [] h4) ∧ (¬ ((h4 283 2) ≤ 9) → Q 0 h4)))))))))) : rB d k_m_isTold n0 z0 Q 0 [(3, 282), (1, a1), (0, 0), (0, 0), (0, 0), (0, 0), (0, 0), (0, 0)] [] h :=
  rB_fold (cut := fun i => Nat.beq i 3 || Nat.beq i 6) (f := 40) hy
set_option maxRecDepth 100000 in
theorem T_m_isTold_3 (d : Nat) (n0 z0 : Int) (Q : Int → mmH → Prop) (h : mmH) (v1 : Int) (v2 : Int) (v3 : Int) (hy : rC d k_m_lotMany [282] h (fun x1 h1 => (x1 ≤ v3 → rB d k_m_isTold n0 z0 Q 6 [(3, 282), (1, v1), (1, v2), (1, 0), (0, 0), (0, 0), (0, 0), (0, 0)] [] h1) ∧ (¬ (x1 ≤ v3) → mmD ((0 : Int) ≤ (mAdd 3 v3) ∧ (mAdd 3 v3) < ((1600 : Nat) : Int)) inferInstance (((h1 283 (mAdd 3 v3)) ≤ 30 → rB d k_m_isTold n0 z0 Q 3 [(3, 282), (1, v1), (1, v2), (1, (mAdd v3 1)), (0, 0), (0, 0), (0, 0), (0, 0)] [] h1) ∧ (¬ ((h1 283 (mAdd 3 v3)) ≤ 30) → Q 0 h1))))) : rB d k_m_isTold n0 z0 Q 3 [(3, 282), (1, v1), (1, v2), (1, v3), (0, 0), (0, 0), (0, 0), (0, 0)] [] h :=
  rB_fold (cut := fun i => Nat.beq i 3 || Nat.beq i 6) (f := 40) hy
set_option maxRecDepth 100000 in
theorem T_m_isTold_6 (d : Nat) (n0 z0 : Int) (Q : Int → mmH → Prop) (h : mmH) (v1 : Int) (v2 : Int) (v3 : Int) (w4 : mmV) (w5 : mmV) (w6 : mmV) (w7 : mmV) (hy : rC d k_m_personMany [282] h (fun x1 h1 => (x1 ≤ v3 → Q 1 h1) ∧ (¬ (x1 ≤ v3) → rC d k_m_lotMany [282] h1 (fun x2 h2 => mmD ((0 : Int) ≤ (mAdd (mAdd 3 x2) (mMul 2 v3)) ∧ (mAdd (mAdd 3 x2) (mMul 2 v3)) < ((1600 : Nat) : Int)) inferInstance (rC d k_m_lotMany [282] h2 (fun x3 h3 => mmD ((0 : Int) ≤ (mAdd (mAdd 4 x3) (mMul 2 v3)) ∧ (mAdd (mAdd 4 x3) (mMul 2 v3)) < ((1600 : Nat) : Int)) inferInstance (rC d k_m_personOf [282, v3, 4] h3 (fun x4 h4 => rC d k_m_personOf [282, v3, 5] h4 (fun x5 h5 => ((h2 283 (mAdd (mAdd 3 x2) (mMul 2 v3))) ≠ x4 → ((h2 283 (mAdd (mAdd 3 x2) (mMul 2 v3))) ≠ x5 → Q 0 h5) ∧ (¬ ((h2 283 (mAdd (mAdd 3 x2) (mMul 2 v3))) ≠ x5) → ((h3 283 (mAdd (mAdd 4 x3) (mMul 2 v3))) = x4 → rB d k_m_isTold n0 z0 Q 6 [(3, 282), (1, v1), (1, v2), (1, (mAdd v3 1)), (1, (h2 283 (mAdd (mAdd 3 x2) (mMul 2 v3)))), (1, (h3 283 (mAdd (mAdd 4 x3) (mMul 2 v3)))), (1, x4), (1, x5)] [] h5) ∧ (¬ ((h3 283 (mAdd (mAdd 4 x3) (mMul 2 v3))) = x4) → Q 0 h5))) ∧ (¬ ((h2 283 (mAdd (mAdd 3 x2) (mMul 2 v3))) ≠ x4) → ((h3 283 (mAdd (mAdd 4 x3) (mMul 2 v3))) = x5 → rB d k_m_isTold n0 z0 Q 6 [(3, 282), (1, v1), (1, v2), (1, (mAdd v3 1)), (1, (h2 283 (mAdd (mAdd 3 x2) (mMul 2 v3)))), (1, (h3 283 (mAdd (mAdd 4 x3) (mMul 2 v3)))), (1, x4), (1, x5)] [] h5) ∧ (¬ ((h3 283 (mAdd (mAdd 4 x3) (mMul 2 v3))) = x5) → ((h2 283 (mAdd (mAdd 3 x2) (mMul 2 v3))) ≠ x5 → Q 0 h5) ∧ (¬ ((h2 283 (mAdd (mAdd 3 x2) (mMul 2 v3))) ≠ x5) → ((h3 283 (mAdd (mAdd 4 x3) (mMul 2 v3))) = x4 → rB d k_m_isTold n0 z0 Q 6 [(3, 282), (1, v1), (1, v2), (1, (mAdd v3 1)), (1, (h2 283 (mAdd (mAdd 3 x2) (mMul 2 v3)))), (1, (h3 283 (mAdd (mAdd 4 x3) (mMul 2 v3)))), (1, x4), (1, x5)] [] h5) ∧ (¬ ((h3 283 (mAdd (mAdd 4 x3) (mMul 2 v3))) = x4) → Q 0 h5))))))))))))) : rB d k_m_isTold n0 z0 Q 6 [(3, 282), (1, v1), (1, v2), (1, v3), w4, w5, w6, w7] [] h :=
  rB_fold (cut := fun i => Nat.beq i 3 || Nat.beq i 6) (f := 40) hy
end
