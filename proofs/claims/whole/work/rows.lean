section
/-! ===== mm: a small machine. Values are (tag, number): 0 nothing, 1 int, 2 long, 3 reference (0 null, else the cell's number), 4 the script, 5 the text constant ===== -/
abbrev mmV : Type := Nat × Int
abbrev mmH : Type := Int → Int → Int
abbrev mmKont : Type := List mmV → List mmV → mmH → Prop
def mmG (b : Bool) (P : Prop) : Prop := match b with
  | true => P
  | false => False
theorem mmG_iff {b : Bool} {P : Prop} : mmG b P ↔ b = true ∧ P := by cases b <;> simp [mmG]
/-- a condition that goes away where it is decided -/
abbrev mmD (P : Prop) (d : Decidable P) (R : Prop) : Prop := mmG (@decide P d) R
theorem mmD_iff {P : Prop} {d : Decidable P} {R : Prop} : mmD P d R ↔ P ∧ R := by
  unfold mmD
  rw [mmG_iff, decide_eq_true_iff]
/-- heap store -/
def mmS (h : mmH) (k i v : Int) : mmH := fun a b => if a = k then (if b = i then v else h a b) else h a b
theorem mmS_self (h : mmH) (k i v : Int) : mmS h k i v k i = v := by simp [mmS]
theorem mmS_slot (h : mmH) (k i v j : Int) : mmS h k i v k j = if j = i then v else h k j := by simp [mmS]
theorem mmS_cell {h : mmH} {k i v a b : Int} (ha : a ≠ k) : mmS h k i v a b = h a b := by simp [mmS, ha]
/- arithmetic, sealed: nothing unfolds it but its row -/
theorem mAdd_ex : ∃ f : Int → Int → Int, ∀ a b, f a b = (Int32.ofInt a + Int32.ofInt b).toInt := ⟨_, fun _ _ => rfl⟩
noncomputable def mAdd : Int → Int → Int := mAdd_ex.choose
theorem mAdd_def (a b : Int) : mAdd a b = (Int32.ofInt a + Int32.ofInt b).toInt := mAdd_ex.choose_spec a b
theorem mSub_ex : ∃ f : Int → Int → Int, ∀ a b, f a b = (Int32.ofInt a - Int32.ofInt b).toInt := ⟨_, fun _ _ => rfl⟩
noncomputable def mSub : Int → Int → Int := mSub_ex.choose
theorem mSub_def (a b : Int) : mSub a b = (Int32.ofInt a - Int32.ofInt b).toInt := mSub_ex.choose_spec a b
theorem mMul_ex : ∃ f : Int → Int → Int, ∀ a b, f a b = (Int32.ofInt a * Int32.ofInt b).toInt := ⟨_, fun _ _ => rfl⟩
noncomputable def mMul : Int → Int → Int := mMul_ex.choose
theorem mMul_def (a b : Int) : mMul a b = (Int32.ofInt a * Int32.ofInt b).toInt := mMul_ex.choose_spec a b
theorem mAnd_ex : ∃ f : Int → Int → Int, ∀ a b, f a b = (Int32.ofInt a &&& Int32.ofInt b).toInt := ⟨_, fun _ _ => rfl⟩
noncomputable def mAnd : Int → Int → Int := mAnd_ex.choose
theorem mAnd_def (a b : Int) : mAnd a b = (Int32.ofInt a &&& Int32.ofInt b).toInt := mAnd_ex.choose_spec a b
theorem mOr_ex : ∃ f : Int → Int → Int, ∀ a b, f a b = (Int32.ofInt a ||| Int32.ofInt b).toInt := ⟨_, fun _ _ => rfl⟩
noncomputable def mOr : Int → Int → Int := mOr_ex.choose
theorem mOr_def (a b : Int) : mOr a b = (Int32.ofInt a ||| Int32.ofInt b).toInt := mOr_ex.choose_spec a b
theorem mXor_ex : ∃ f : Int → Int → Int, ∀ a b, f a b = (Int32.ofInt a ^^^ Int32.ofInt b).toInt := ⟨_, fun _ _ => rfl⟩
noncomputable def mXor : Int → Int → Int := mXor_ex.choose
theorem mXor_def (a b : Int) : mXor a b = (Int32.ofInt a ^^^ Int32.ofInt b).toInt := mXor_ex.choose_spec a b
theorem mShl_ex : ∃ f : Int → Int → Int, ∀ a b, f a b = (Int32.ofInt a <<< (Int32.ofInt b &&& 31)).toInt := ⟨_, fun _ _ => rfl⟩
noncomputable def mShl : Int → Int → Int := mShl_ex.choose
theorem mShl_def (a b : Int) : mShl a b = (Int32.ofInt a <<< (Int32.ofInt b &&& 31)).toInt := mShl_ex.choose_spec a b
theorem mShr_ex : ∃ f : Int → Int → Int, ∀ a b, f a b = (Int32.ofInt a >>> (Int32.ofInt b &&& 31)).toInt := ⟨_, fun _ _ => rfl⟩
noncomputable def mShr : Int → Int → Int := mShr_ex.choose
theorem mShr_def (a b : Int) : mShr a b = (Int32.ofInt a >>> (Int32.ofInt b &&& 31)).toInt := mShr_ex.choose_spec a b
theorem mUshr_ex : ∃ f : Int → Int → Int, ∀ a b, f a b = (((Int32.ofInt a).toUInt32 >>> ((Int32.ofInt b).toUInt32 &&& Int32.toUInt32 31)).toInt32).toInt := ⟨_, fun _ _ => rfl⟩
noncomputable def mUshr : Int → Int → Int := mUshr_ex.choose
theorem mUshr_def (a b : Int) : mUshr a b = (((Int32.ofInt a).toUInt32 >>> ((Int32.ofInt b).toUInt32 &&& Int32.toUInt32 31)).toInt32).toInt := mUshr_ex.choose_spec a b
theorem mDiv_ex : ∃ f : Int → Int → Int, ∀ a b, f a b = (Int32.ofInt a / Int32.ofInt b).toInt := ⟨_, fun _ _ => rfl⟩
noncomputable def mDiv : Int → Int → Int := mDiv_ex.choose
theorem mDiv_def (a b : Int) : mDiv a b = (Int32.ofInt a / Int32.ofInt b).toInt := mDiv_ex.choose_spec a b
theorem mRem_ex : ∃ f : Int → Int → Int, ∀ a b, f a b = (Int32.ofInt a - Int32.ofInt a / Int32.ofInt b * Int32.ofInt b).toInt := ⟨_, fun _ _ => rfl⟩
noncomputable def mRem : Int → Int → Int := mRem_ex.choose
theorem mRem_def (a b : Int) : mRem a b = (Int32.ofInt a - Int32.ofInt a / Int32.ofInt b * Int32.ofInt b).toInt := mRem_ex.choose_spec a b
noncomputable def mI2 : Nat → Int → Int → Int
  | 0 => mAdd
  | 1 => mSub
  | 2 => mMul
  | 3 => mAnd
  | 4 => mOr
  | 5 => mXor
  | 6 => mShl
  | 7 => mShr
  | _ => mUshr
-- long arithmetic
theorem nAdd_ex : ∃ f : Int → Int → Int, ∀ a b, f a b = (Int64.ofInt a + Int64.ofInt b).toInt := ⟨_, fun _ _ => rfl⟩
noncomputable def nAdd : Int → Int → Int := nAdd_ex.choose
theorem nAdd_def (a b : Int) : nAdd a b = (Int64.ofInt a + Int64.ofInt b).toInt := nAdd_ex.choose_spec a b
theorem nSub_ex : ∃ f : Int → Int → Int, ∀ a b, f a b = (Int64.ofInt a - Int64.ofInt b).toInt := ⟨_, fun _ _ => rfl⟩
noncomputable def nSub : Int → Int → Int := nSub_ex.choose
theorem nSub_def (a b : Int) : nSub a b = (Int64.ofInt a - Int64.ofInt b).toInt := nSub_ex.choose_spec a b
theorem nMul_ex : ∃ f : Int → Int → Int, ∀ a b, f a b = (Int64.ofInt a * Int64.ofInt b).toInt := ⟨_, fun _ _ => rfl⟩
noncomputable def nMul : Int → Int → Int := nMul_ex.choose
theorem nMul_def (a b : Int) : nMul a b = (Int64.ofInt a * Int64.ofInt b).toInt := nMul_ex.choose_spec a b
theorem nAnd_ex : ∃ f : Int → Int → Int, ∀ a b, f a b = (Int64.ofInt a &&& Int64.ofInt b).toInt := ⟨_, fun _ _ => rfl⟩
noncomputable def nAnd : Int → Int → Int := nAnd_ex.choose
theorem nAnd_def (a b : Int) : nAnd a b = (Int64.ofInt a &&& Int64.ofInt b).toInt := nAnd_ex.choose_spec a b
theorem nOr_ex : ∃ f : Int → Int → Int, ∀ a b, f a b = (Int64.ofInt a ||| Int64.ofInt b).toInt := ⟨_, fun _ _ => rfl⟩
noncomputable def nOr : Int → Int → Int := nOr_ex.choose
theorem nOr_def (a b : Int) : nOr a b = (Int64.ofInt a ||| Int64.ofInt b).toInt := nOr_ex.choose_spec a b
theorem nXor_ex : ∃ f : Int → Int → Int, ∀ a b, f a b = (Int64.ofInt a ^^^ Int64.ofInt b).toInt := ⟨_, fun _ _ => rfl⟩
noncomputable def nXor : Int → Int → Int := nXor_ex.choose
theorem nXor_def (a b : Int) : nXor a b = (Int64.ofInt a ^^^ Int64.ofInt b).toInt := nXor_ex.choose_spec a b
theorem nDiv_ex : ∃ f : Int → Int → Int, ∀ a b, f a b = (Int64.ofInt a / Int64.ofInt b).toInt := ⟨_, fun _ _ => rfl⟩
noncomputable def nDiv : Int → Int → Int := nDiv_ex.choose
theorem nDiv_def (a b : Int) : nDiv a b = (Int64.ofInt a / Int64.ofInt b).toInt := nDiv_ex.choose_spec a b
theorem nRem_ex : ∃ f : Int → Int → Int, ∀ a b, f a b = (Int64.ofInt a - Int64.ofInt a / Int64.ofInt b * Int64.ofInt b).toInt := ⟨_, fun _ _ => rfl⟩
noncomputable def nRem : Int → Int → Int := nRem_ex.choose
theorem nRem_def (a b : Int) : nRem a b = (Int64.ofInt a - Int64.ofInt a / Int64.ofInt b * Int64.ofInt b).toInt := nRem_ex.choose_spec a b
noncomputable def nI2 : Nat → Int → Int → Int
  | 0 => nAdd
  | 1 => nSub
  | 2 => nMul
  | 3 => nAnd
  | 4 => nOr
  | _ => nXor
theorem mL2i_ex : ∃ f : Int → Int, ∀ a, f a = (Int64.ofInt a).toInt32.toInt := ⟨_, fun _ => rfl⟩
noncomputable def mL2i : Int → Int := mL2i_ex.choose
theorem mL2i_def (a : Int) : mL2i a = (Int64.ofInt a).toInt32.toInt := mL2i_ex.choose_spec a
theorem nFdiv_ex : ∃ f : Int → Int → Int, ∀ a b, f a b = (if (Int64.ofInt a ^^^ Int64.ofInt b) < 0 then (if (Int64.ofInt a / Int64.ofInt b) * Int64.ofInt b = Int64.ofInt a then Int64.ofInt a / Int64.ofInt b else (Int64.ofInt a / Int64.ofInt b) - 1) else Int64.ofInt a / Int64.ofInt b).toInt := ⟨_, fun _ _ => rfl⟩
noncomputable def nFdiv : Int → Int → Int := nFdiv_ex.choose
theorem nFdiv_def (a b : Int) : nFdiv a b = (if (Int64.ofInt a ^^^ Int64.ofInt b) < 0 then (if (Int64.ofInt a / Int64.ofInt b) * Int64.ofInt b = Int64.ofInt a then Int64.ofInt a / Int64.ofInt b else (Int64.ofInt a / Int64.ofInt b) - 1) else Int64.ofInt a / Int64.ofInt b).toInt := nFdiv_ex.choose_spec a b
def mMax (a b : Int) : Int := if a < b then b else a
def mMin (a b : Int) : Int := if b < a then b else a
def mLcmp (a b : Int) : Int := if b < a then 1 else if a = b then 0 else -1
/-- conditions: eq ne lt ge gt le -/
def mmCd : Nat → Int → Int → Prop
  | 0, a, b => a = b
  | 1, a, b => a ≠ b
  | 2, a, b => a < b
  | 3, a, b => b ≤ a
  | 4, a, b => b < a
  | _, a, b => a ≤ b
-- locals
def mmUn (ls : List mmV) (i : Nat) : List mmV := match i with
  | 0 => ls
  | j + 1 => bif Nat.beq (ls.getD j (0, 0)).1 2 then ls.set j (0, 0) else ls
def mmSt (ls : List mmV) (i t : Nat) (x : Int) : List mmV := bif Nat.beq t 2 then ((mmUn ls i).set i (t, x)).set (i + 1) (0, 0) else (mmUn ls i).set i (t, x)
def mmFits (ls : List mmV) (i t : Nat) : Bool := bif Nat.beq t 2 then Nat.blt (i + 1) ls.length else Nat.blt i ls.length
/-- the kinds of array: 0 int, 1 long, 2 char, 3 boolean, 4 int[], 5 references -/
def mmEt : Nat → Nat
  | 1 => 2
  | 4 => 3
  | 5 => 3
  | _ => 1
def mmFitE (sh : Int → Nat × Nat) (k : Nat) (x : Int) : Bool := match k with
  | 2 => decide (0 ≤ x ∧ x < 65536)
  | 3 => decide (x = 0 ∨ x = 1)
  | 5 => Nat.beq (sh x).1 4
  | _ => true
/-- the arguments of a call, by their tags, the last one first -/
def mmPop : List Nat → List mmV → List Int → Option (List Int × List mmV)
  | [], st, acc => some (acc, st)
  | t :: ts, v :: st, acc => bif Nat.beq v.1 t then mmPop ts st (v.2 :: acc) else none
  | _ :: _, [], _ => none
def mmCat (st : List mmV) : Nat := st.foldr (fun v n => (bif Nat.beq v.1 2 then 2 else 1) + n) 0
def mmPush (t : Nat) (x : Int) (st : List mmV) : List mmV := bif Nat.beq t 0 then st else (t, x) :: st
def mmTsw (x : Int) : Int → List Int → (Nat → Prop) → Prop
  | _, [], _ => True
  | lo, t :: ts, F => (x = lo → F t.toNat) ∧ mmTsw x (lo + 1) ts F
def mmLsw (x : Int) : List Int → (Nat → Prop) → Prop → Prop
  | k :: t :: r, F, D => (x = k → F t.toNat) ∧ (¬ x = k → mmLsw x r F D)
  | _, _, D => D
/-- a call's data: the tags of its arguments, the last one first; the answer's tag (0 none, 1 int, 2 long, 3 reference, 4 an int that is 0 or 1); the receiver's kind (99: static); cells and slots that it makes; whose cells it may write: 0 all, 1 the one side, 2 the other side, 3 none -/
abbrev mmM : Type := List Nat × Nat × Nat × Nat × Nat × Nat
section MM
variable (sh : Int → Nat × Nat) (tg : Nat → Nat → Nat)
-- what a slot holds once and for all, where that is known
variable (fc : Int → Int → Option Int) (wn : Int → Bool) (mp : Nat → mmM)
variable (K : Nat → List Int → mmH → (Int → mmH → Prop) → Prop) (Q : Int → mmH → Prop) (X : Nat → mmKont)
-- how many cells and slots the method has made so far, and may make
variable (n0 z0 mc ms : Int)
def oPush (t : Nat) (c : Int) (k : mmKont) : mmKont := fun ls st h => k ls ((t, c) :: st) h
def oLoad (i t : Nat) (k : mmKont) : mmKont := fun ls st h => mmG (Nat.beq (ls.getD i (0, 0)).1 t && Nat.blt 0 t) (k ls ((t, (ls.getD i (0, 0)).2) :: st) h)
def oStore (i t : Nat) (k : mmKont) : mmKont := fun ls st h => match st with
  | [] => False
  | v :: r => mmG (Nat.beq v.1 t && mmFits ls i t) (k (mmSt ls i t v.2) r h)
noncomputable def oIinc (i : Nat) (c : Int) (k : mmKont) : mmKont := fun ls st h => mmG (Nat.beq (ls.getD i (0, 0)).1 1 && mmFits ls i 1) (k (mmSt ls i 1 (mAdd (ls.getD i (0, 0)).2 c)) st h)
noncomputable def oI2 (f : Nat) (k : mmKont) : mmKont := fun ls st h => match st with
  | b :: a :: r => mmG (Nat.beq b.1 1 && Nat.beq a.1 1) (k ls ((1, mI2 f a.2 b.2) :: r) h)
  | _ => False
noncomputable def oL2 (f : Nat) (k : mmKont) : mmKont := fun ls st h => match st with
  | b :: a :: r => mmG (Nat.beq b.1 2 && Nat.beq a.1 2) (k ls ((2, nI2 f a.2 b.2) :: r) h)
  | _ => False
noncomputable def oDv (f : Nat) (k : mmKont) : mmKont := fun ls st h => match st with
  | b :: a :: r => match f with
    | 0 => mmG (Nat.beq b.1 1 && Nat.beq a.1 1) (mmD (b.2 ≠ 0) inferInstance (k ls ((1, mDiv a.2 b.2) :: r) h))
    | 1 => mmG (Nat.beq b.1 1 && Nat.beq a.1 1) (mmD (b.2 ≠ 0) inferInstance (k ls ((1, mRem a.2 b.2) :: r) h))
    | 2 => mmG (Nat.beq b.1 2 && Nat.beq a.1 2) (mmD (b.2 ≠ 0) inferInstance (k ls ((2, nDiv a.2 b.2) :: r) h))
    | _ => mmG (Nat.beq b.1 2 && Nat.beq a.1 2) (mmD (b.2 ≠ 0) inferInstance (k ls ((2, nRem a.2 b.2) :: r) h))
  | _ => False
/-- 0 i2l, 1 l2i -/
noncomputable def oCv (f : Nat) (k : mmKont) : mmKont := fun ls st h => match st with
  | a :: r => match f with
    | 0 => mmG (Nat.beq a.1 1) (k ls ((2, a.2) :: r) h)
    | _ => mmG (Nat.beq a.1 2) (k ls ((1, mL2i a.2) :: r) h)
  | _ => False
def oLcmp (k : mmKont) : mmKont := fun ls st h => match st with
  | b :: a :: r => mmG (Nat.beq b.1 2 && Nat.beq a.1 2) (k ls ((1, mLcmp a.2 b.2) :: r) h)
  | _ => False
/-- 0 dup, 1 dup2 (of two values), 2 pop -/
def oStk (f : Nat) (k : mmKont) : mmKont := fun ls st h => match f with
  | 0 => match st with
    | a :: r => mmG (!Nat.beq a.1 2) (k ls (a :: a :: r) h)
    | _ => False
  | 1 => match st with
    | a :: b :: r => mmG (!Nat.beq a.1 2 && !Nat.beq b.1 2) (k ls (a :: b :: a :: b :: r) h)
    | _ => False
  | _ => match st with
    | a :: r => mmG (!Nat.beq a.1 2) (k ls r h)
    | _ => False
def oGet (ci s : Nat) (k : mmKont) : mmKont := fun ls st h => match st with
  | v :: r => mmG (Nat.beq v.1 3) (mmG (Nat.beq (sh v.2).1 ci) (k ls ((tg ci s, (fc v.2 s).getD (h v.2 s)) :: r) h))
  | _ => False
def oPut (ci s : Nat) (k : mmKont) : mmKont := fun ls st h => match st with
  | w :: v :: r => mmG (Nat.beq w.1 (tg ci s) && Nat.beq v.1 3) (mmG (Nat.beq (sh v.2).1 ci && (wn v.2 && (fc v.2 s).isNone)) (k ls r (mmS h v.2 s w.2)))
  | _ => False
def oAld (kd : Nat) (k : mmKont) : mmKont := fun ls st h => match st with
  | i :: a :: r => mmG (Nat.beq i.1 1 && Nat.beq a.1 3) (mmG (Nat.beq (sh a.2).1 (100 + kd)) (mmD (0 ≤ i.2 ∧ i.2 < (sh a.2).2) inferInstance (k ls ((mmEt kd, (fc a.2 i.2).getD (h a.2 i.2)) :: r) h)))
  | _ => False
def oAst (kd : Nat) (k : mmKont) : mmKont := fun ls st h => match st with
  | x :: i :: a :: r => mmG (Nat.beq x.1 (mmEt kd) && (Nat.beq i.1 1 && Nat.beq a.1 3)) (mmG (Nat.beq (sh a.2).1 (100 + kd) && (wn a.2 && (fc a.2 i.2).isNone)) (mmD (0 ≤ i.2 ∧ i.2 < (sh a.2).2) inferInstance (mmG (mmFitE sh kd x.2) (k ls r (mmS h a.2 i.2 x.2)))))
  | _ => False
def oLen (k : mmKont) : mmKont := fun ls st h => match st with
  | a :: r => mmG (Nat.beq a.1 3) (mmG (Nat.ble 100 (sh a.2).1) (k ls ((1, ((sh a.2).2 : Int)) :: r) h))
  | _ => False
def oIf (cd b : Nat) (k : mmKont) : mmKont := fun ls st h => match st with
  | a :: r => mmG (Nat.beq a.1 1) ((mmCd cd a.2 0 → X b ls r h) ∧ (¬ mmCd cd a.2 0 → k ls r h))
  | _ => False
def oIcmp (cd b : Nat) (k : mmKont) : mmKont := fun ls st h => match st with
  | y :: x :: r => mmG (Nat.beq y.1 1 && Nat.beq x.1 1) ((mmCd cd x.2 y.2 → X b ls r h) ∧ (¬ mmCd cd x.2 y.2 → k ls r h))
  | _ => False
def oTsw (lo : Int) (l : List Int) : mmKont := fun ls st h => match st with
  | a :: r => match l with
    | d :: ts => mmG (Nat.beq a.1 1) (mmTsw a.2 lo ts (fun b => X b ls r h) ∧ ((a.2 < lo ∨ lo + (ts.length : Int) ≤ a.2) → X d.toNat ls r h))
    | _ => False
  | _ => False
def oLsw (l : List Int) : mmKont := fun ls st h => match st with
  | a :: r => match l with
    | d :: ts => mmG (Nat.beq a.1 1) (mmLsw a.2 ts (fun b => X b ls r h) (X d.toNat ls r h))
    | _ => False
  | _ => False
def oRet (t : Nat) : mmKont := fun _ st h => match t with
  | 0 => match st with
    | [] => Q 0 h
    | _ => False
  | 4 => match st with
    | [v] => mmG (Nat.beq v.1 1) (mmD (v.2 = 0 ∨ v.2 = 1) inferInstance (Q v.2 h))
    | _ => False
  | t => match st with
    | [v] => mmG (Nat.beq v.1 t) (Q v.2 h)
    | _ => False
/-- the answer's tag on the caller's stack -/
def mmRt (t : Nat) : Nat := bif Nat.beq t 4 then 1 else t
def oCall (mi : Nat) (k : mmKont) : mmKont := fun ls st h => match mmPop (mp mi).1 st [] with
  | none => False
  | some q => mmG (Nat.ble (mmCat q.2) 8) (mmG (Nat.beq (mp mi).2.2.1 99 || Nat.beq (sh (q.1.headD 0)).1 (mp mi).2.2.1) (mmG ((Nat.beq (mp mi).2.2.2.1 0 && Nat.beq (mp mi).2.2.2.2.1 0) || decide (h 0 0 - n0 + ((mp mi).2.2.2.1 : Int) ≤ mc ∧ h 0 1 - z0 + ((mp mi).2.2.2.2.1 : Int) ≤ ms))
      (K mi q.1 h (fun x h' => k ls (mmPush (mmRt (mp mi).2.1) x q.2) h'))))
/-- the next cell, blank -/
def mmZ (h : mmH) : mmH := fun a b => if a = h 0 0 then 0 else h a b
/-- an object of kind ci is made: the next cell -/
def oNew (ci : Nat) (k : mmKont) : mmKont := fun ls st h =>
  ((sh (h 0 0)).1 = ci ∧ (sh (h 0 0)).2 < 1000) ∧ (h 0 0 - n0 + 1 ≤ mc ∧ h 0 1 - z0 + ((sh (h 0 0)).2 : Int) ≤ ms) ∧
    k ls ((3, h 0 0) :: st) (mmS (mmS (mmZ h) 0 0 (h 0 0 + 1)) 0 1 (h 0 1 + ((sh (h 0 0)).2 : Int)))
def oNewA (kd : Nat) (k : mmKont) : mmKont := fun ls st h => match st with
  | a :: r => mmG (Nat.beq a.1 1) (((sh (h 0 0)).1 = 100 + kd ∧ ((sh (h 0 0)).2 : Int) = a.2 ∧ a.2 < 65536) ∧ (h 0 0 - n0 + 1 ≤ mc ∧ h 0 1 - z0 + a.2 ≤ ms) ∧
    k ls ((3, h 0 0) :: r) (mmS (mmS (mmZ h) 0 0 (h 0 0 + 1)) 0 1 (h 0 1 + a.2)))
  | _ => False
/-- new int[n][m]: the outer one's cells hold the numbers of the next n cells -/
def mmRows (h : mmH) (n : Int) : mmH := fun a b => if a = h 0 0 then (if 0 ≤ b ∧ b < n then h 0 0 + 1 + b else 0) else if h 0 0 < a ∧ a ≤ h 0 0 + n then 0 else h a b
def oNewM (k : mmKont) : mmKont := fun ls st h => match st with
  | y :: x :: r => mmG (Nat.beq y.1 1 && Nat.beq x.1 1) (((sh (h 0 0)).1 = 104 ∧ ((sh (h 0 0)).2 : Int) = x.2 ∧ x.2 < 65536) ∧ (∀ j : Nat, j < x.2.toNat → (sh (h 0 0 + 1 + j)).1 = 100 ∧ ((sh (h 0 0 + 1 + j)).2 : Int) = y.2) ∧ (0 ≤ y.2 ∧ y.2 < 65536) ∧ (h 0 0 - n0 + (1 + x.2) ≤ mc ∧ h 0 1 - z0 + (x.2 + x.2 * y.2) ≤ ms) ∧
    k ls ((3, h 0 0) :: r) (mmS (mmS (mmRows h x.2) 0 0 (h 0 0 + (1 + x.2))) 0 1 (h 0 1 + (x.2 + x.2 * y.2))))
  | _ => False
/-- System.arraycopy over int rows -/
def mmCpy (h : mmH) (a sp b dp n : Int) : mmH := fun c i => if c = b then (if dp ≤ i ∧ i < dp + n then h a (sp + (i - dp)) else h c i) else h c i
def oCpy (k : mmKont) : mmKont := fun ls st h => match st with
  | n :: dp :: b :: sp :: a :: r => mmG (Nat.beq n.1 1 && (Nat.beq dp.1 1 && (Nat.beq b.1 3 && (Nat.beq sp.1 1 && (Nat.beq a.1 3 && Nat.ble (mmCat r) 8)))))
      (mmG (Nat.beq (sh a.2).1 100 && (Nat.beq (sh b.2).1 100 && wn b.2)) (mmD ((0 ≤ sp.2 ∧ 0 ≤ dp.2 ∧ 0 ≤ n.2) ∧ (sp.2 + n.2 ≤ (sh a.2).2 ∧ dp.2 + n.2 ≤ (sh b.2).2)) inferInstance (k ls r (mmCpy h a.2 sp.2 b.2 dp.2 n.2))))
  | _ => False
def oObj (k : mmKont) : mmKont := fun ls st h => match st with
  | a :: r => mmG (Nat.beq a.1 3 && Nat.ble (mmCat r) 8) (mmD (a.2 ≠ 0) inferInstance (k ls r h))
  | _ => False
-- the script: its length L and what it holds
variable (L : Int) (xs : Int → Int)
def oSld (k : mmKont) : mmKont := fun ls st h => match st with
  | i :: a :: r => mmG (Nat.beq i.1 1 && Nat.beq a.1 4) ((0 ≤ i.2 ∧ i.2 < L) ∧ k ls ((1, xs i.2) :: r) h)
  | _ => False
def oSlen (k : mmKont) : mmKont := fun ls st h => match st with
  | a :: r => mmG (Nat.beq a.1 4) (k ls ((1, L) :: r) h)
  | _ => False
-- the text constant: its length and its characters
variable (tx : List Int)
def oTlen (k : mmKont) : mmKont := fun ls st h => match st with
  | a :: r => mmG (Nat.beq a.1 5 && Nat.ble (mmCat r) 8) (k ls ((1, (tx.length : Int)) :: r) h)
  | _ => False
def oTat (k : mmKont) : mmKont := fun ls st h => match st with
  | i :: a :: r => mmG (Nat.beq i.1 1 && (Nat.beq a.1 5 && Nat.ble (mmCat r) 8)) ((0 ≤ i.2 ∧ i.2 < tx.length) ∧ k ls ((1, tx.getD i.2.toNat 0) :: r) h)
  | _ => False
/-- the library's pure functions: 0 max, 1 min, 2 max of longs, 3 min of longs, 4 floorDiv of longs -/
noncomputable def oMath (f : Nat) (k : mmKont) : mmKont := fun ls st h => match st with
  | b :: a :: r => match f with
    | 0 => mmG (Nat.beq b.1 1 && (Nat.beq a.1 1 && Nat.ble (mmCat r) 8)) (k ls ((1, mMax a.2 b.2) :: r) h)
    | 1 => mmG (Nat.beq b.1 1 && (Nat.beq a.1 1 && Nat.ble (mmCat r) 8)) (k ls ((1, mMin a.2 b.2) :: r) h)
    | 2 => mmG (Nat.beq b.1 2 && (Nat.beq a.1 2 && Nat.ble (mmCat r) 8)) (k ls ((2, mMax a.2 b.2) :: r) h)
    | 3 => mmG (Nat.beq b.1 2 && (Nat.beq a.1 2 && Nat.ble (mmCat r) 8)) (k ls ((2, mMin a.2 b.2) :: r) h)
    | _ => mmG (Nat.beq b.1 2 && (Nat.beq a.1 2 && Nat.ble (mmCat r) 8)) (mmD (b.2 ≠ 0) inferInstance (k ls ((2, nFdiv a.2 b.2) :: r) h))
  | _ => False
/-- one op: its number, two parameters -/
noncomputable def mmStep (o : Nat) (a : Int) (l : List Int) (k : mmKont) : mmKont := match o with
  | 0 => oPush a.toNat (l.headD 0) k
  | 1 => oLoad a.toNat (l.headD 0).toNat k
  | 2 => oStore a.toNat (l.headD 0).toNat k
  | 3 => oIinc a.toNat (l.headD 0) k
  | 4 => oI2 a.toNat k
  | 5 => oL2 a.toNat k
  | 6 => oDv a.toNat k
  | 7 => oCv a.toNat k
  | 8 => oLcmp k
  | 9 => oStk a.toNat k
  | 10 => oGet sh tg fc a.toNat (l.headD 0).toNat k
  | 11 => oPut sh tg fc wn a.toNat (l.headD 0).toNat k
  | 12 => oAld sh fc a.toNat k
  | 13 => oAst sh fc wn a.toNat k
  | 14 => oLen sh k
  | 15 => oIf X a.toNat (l.headD 0).toNat k
  | 16 => oIcmp X a.toNat (l.headD 0).toNat k
  | 17 => X a.toNat
  | 18 => oTsw X a l
  | 19 => oLsw X l
  | 20 => oRet Q a.toNat
  | 21 => oCall sh mp K n0 z0 mc ms a.toNat k
  | 22 => oNew sh n0 z0 mc ms a.toNat k
  | 23 => oNewA sh n0 z0 mc ms a.toNat k
  | 24 => oNewM sh n0 z0 mc ms k
  | 25 => oCpy sh wn k
  | 26 => oObj k
  | 27 => oSld L xs k
  | 28 => oSlen L k
  | 29 => oTlen tx k
  | 30 => oTat tx k
  | 31 => oMath a.toNat k
  | _ => fun _ _ _ => False
abbrev mmOp : Type := Nat × Int × List Int
noncomputable def mmEx (ops : List mmOp) : mmKont := ops.foldr (fun op k => mmStep sh tg fc wn mp K Q X n0 z0 mc ms L xs tx op.1 op.2.1 op.2.2 k) (fun _ _ _ => False)
end MM
end
section
/-! ===== mm: what a small heap is on the machine ===== -/
section MW
variable (sh : Int → Nat × Nat) (tg : Nat → Nat → Nat) (B b g : Nat) (aC : Nat → ClassId)
def mmVal (v : mmV) : Value := match v.1 with
  | 1 => .int (Int32.ofInt v.2)
  | 2 => .long (Int64.ofInt v.2)
  | 3 => if v.2 = 0 then .null else .ref (B + v.2.toNat)
  | 4 => .ref b
  | 5 => .ref g
  | _ => .null
def mmOk (n : Int) (v : mmV) : Prop := match v.1 with
  | 1 => -2147483648 ≤ v.2 ∧ v.2 < 2147483648
  | 2 => -9223372036854775808 ≤ v.2 ∧ v.2 < 9223372036854775808
  | 3 => 0 ≤ v.2 ∧ v.2 < n
  | _ => True
def mmAr (kd : Nat) (f : Int → Int) : (Nat → Int32) ⊕ (Nat → Int64) ⊕ (Nat → UInt32) ⊕ (Nat → UInt64) ⊕ (Nat → Option Nat) := match kd with
  | 1 => .inr (.inl (fun j => Int64.ofInt (f j)))
  | 4 => .inr (.inr (.inr (.inr (fun j => if f j = 0 then none else some (B + (f j).toNat)))))
  | 5 => .inr (.inr (.inr (.inr (fun j => if f j = 0 then none else some (B + (f j).toNat)))))
  | _ => .inl (fun j => Int32.ofInt (f j))
/-- the tag of a slot -/
def mmTg (k : Int) (s : Nat) : Nat := if (sh k).1 < 100 then tg (sh k).1 s else mmEt ((sh k).1 - 100)
def mmE (k : Int) (f : Int → Int) : va_E := if (sh k).1 < 100 then .inr ((sh k).1, (List.range (sh k).2).map (fun s : Nat => mmVal B b g (tg (sh k).1 s, f s))) else .inl (aC ((sh k).1 - 100), (sh k).2, mmAr B ((sh k).1 - 100) f)
def mmWs (h : mmH) : va_W := (List.range ((h 0 0).toNat - 1)).map (fun k : Nat => (B + (k + 1), mmE sh tg B b g aC ((k : Int) + 1) (h ((k : Int) + 1))))
def mmOkH (h : mmH) : Prop := 1 ≤ h 0 0 ∧ 0 ≤ h 0 1 ∧ ∀ k : Int, 1 ≤ k → k < h 0 0 → (sh k).2 < 2147483648 ∧ ∀ s : Nat, s < (sh k).2 → mmOk (h 0 0) (mmTg sh tg k s, h k s)
def mmA (q : Nat) : Prop := B + 1 ≤ q
def mmWH (D : va_G) (cl : List vw_C) (H0 : Heap) (h : mmH) (H : Heap) (locs : List Loc) : Prop :=
  va_P D cl (mmWs sh tg B b g aC h) H ∧ H.size = B + (h 0 0).toNat ∧ va_S (mmA B) H0 H locs ∧ mmOkH sh tg h
theorem mmWs_get {h : mmH} {k : Int} (h1 : 1 ≤ k) (h2 : k < h 0 0) : (mmWs sh tg B b g aC h)[k.toNat - 1]? = some (B + k.toNat, mmE sh tg B b g aC k (h k)) := by
  unfold mmWs
  rw [List.getElem?_map, List.getElem?_range (by omega)]
  have e : ((k.toNat - 1 : Nat) : Int) + 1 = k := by omega
  simp only [Option.map_some, e]
  have e2 : k.toNat - 1 + 1 = k.toNat := by omega
  rw [e2]
theorem mmWs_len (h : mmH) : (mmWs sh tg B b g aC h).length = (h 0 0).toNat - 1 := by simp [mmWs]
theorem mmWs_set {h h' : mmH} {k : Int} (h1 : 1 ≤ k) (h2 : k < h 0 0) (hn : h' 0 0 = h 0 0) (ho : ∀ j : Int, 1 ≤ j → j ≠ k → h' j = h j) {a : Nat} (ha : a = B + k.toNat) :
    (mmWs sh tg B b g aC h).set (k.toNat - 1) (a, mmE sh tg B b g aC k (h' k)) = mmWs sh tg B b g aC h' := by
  apply List.ext_getElem?
  intro i
  by_cases hi : i = k.toNat - 1
  · subst hi
    rw [List.getElem?_set_self (by rw [mmWs_len]; omega), mmWs_get sh tg B b g aC h1 (by rw [hn]; exact h2), ha]
  · rw [List.getElem?_set_ne (Ne.symm hi)]
    by_cases hl : i < (h 0 0).toNat - 1
    · have q1 : (1 : Int) ≤ (i : Int) + 1 := by omega
      have q2 : (i : Int) + 1 < h 0 0 := by omega
      have e1 := mmWs_get sh tg B b g aC q1 q2
      have e2 := mmWs_get sh tg B b g aC (h := h') q1 (by rw [hn]; exact q2)
      have e3 : ((i : Int) + 1).toNat - 1 = i := by omega
      rw [e3] at e1 e2
      rw [e1, e2, ho _ q1 (by omega)]
    · rw [List.getElem?_eq_none (by rw [mmWs_len]; omega), List.getElem?_eq_none (by rw [mmWs_len, hn]; omega)]
theorem mmWs_D (h : mmH) : va_D (mmA B) (mmWs sh tg B b g aC h) := by
  have key : ∀ (i : Nat) (p : Nat × va_E), (mmWs sh tg B b g aC h)[i]? = some p → p.1 = B + (i + 1) := by
    intro i p hp
    unfold mmWs at hp
    rw [List.getElem?_map] at hp
    cases hr : (List.range ((h 0 0).toNat - 1))[i]? with
    | none => rw [hr] at hp; cases hp
    | some j =>
      rw [hr] at hp
      obtain ⟨hj, rfl⟩ := List.getElem?_eq_some_iff.mp hr
      simp only [Option.map_some, Option.some.injEq] at hp
      rw [← hp]
      simp
  refine ⟨fun i j p q hi hj hpq => ?_, fun k q hk => ?_⟩
  · have a1 := key i p hi
    have a2 := key j q hj
    omega
  · have a1 := key k q hk
    unfold mmA
    omega
/-- a store: the world behind it -/
theorem mmWs_put {h : mmH} {k i v : Int} (h1 : 1 ≤ k) (h2 : k < h 0 0) {a : Nat} {e : va_E} (ha : a = B + k.toNat) (he : e = mmE sh tg B b g aC k (mmS h k i v k)) :
    (mmWs sh tg B b g aC h).set (k.toNat - 1) (a, e) = mmWs sh tg B b g aC (mmS h k i v) := by
  subst he
  refine mmWs_set sh tg B b g aC h1 h2 ?_ (fun j _ hj => ?_) ha
  · exact mmS_cell (by omega)
  · funext z
    exact mmS_cell hj
theorem mmOk_mono {n n' : Int} {v : mmV} (h : mmOk n v) (hn : n ≤ n') : mmOk n' v := by
  obtain ⟨t, x⟩ := v
  match t, h with
  | 0, h => trivial
  | 1, h => exact h
  | 2, h => exact h
  | 3, h => exact ⟨h.1, Int.lt_of_lt_of_le h.2 hn⟩
  | 4, h => trivial
  | 5, h => trivial
  | t + 6, h => trivial
theorem mmOkH_put {h : mmH} {k v : Int} {i : Nat} (H : mmOkH sh tg h) (h1 : 1 ≤ k) (hv : mmOk (h 0 0) (mmTg sh tg k i, v)) : mmOkH sh tg (mmS h k i v) := by
  obtain ⟨q0, q1, q2⟩ := H
  have e0 : mmS h k i v 0 0 = h 0 0 := mmS_cell (by omega)
  have e1 : mmS h k i v 0 1 = h 0 1 := mmS_cell (by omega)
  refine ⟨by rw [e0]; exact q0, by rw [e1]; exact q1, fun a ha hb => ?_⟩
  rw [e0] at hb ⊢
  obtain ⟨p1, p2⟩ := q2 a ha hb
  refine ⟨p1, fun s hs => ?_⟩
  by_cases e : a = k
  · subst e
    rw [mmS_slot]
    by_cases e2 : (s : Int) = i
    · rw [if_pos e2]
      have : s = i := by omega
      rw [this]
      exact hv
    · rw [if_neg e2]
      exact p2 s hs
  · rw [mmS_cell e]
    exact p2 s hs
/-- the locals that are there -/
def mmLv (ls : List mmV) : List (Nat × Value) := (List.range ls.length).filterMap (fun i => if (ls.getD i (0, 0)).1 = 0 then none else some (i, mmVal B b g (ls.getD i (0, 0))))
theorem mmLv_in {ls : List mmV} {i : Nat} {w : Value} : (i, w) ∈ mmLv B b g ls ↔ i < ls.length ∧ (ls.getD i (0, 0)).1 ≠ 0 ∧ w = mmVal B b g (ls.getD i (0, 0)) := by
  unfold mmLv
  rw [List.mem_filterMap]
  constructor
  · rintro ⟨j, hj, h⟩
    rw [List.mem_range] at hj
    by_cases e : (ls.getD j (0, 0)).1 = 0
    · rw [if_pos e] at h; cases h
    · rw [if_neg e] at h
      obtain ⟨rfl, rfl⟩ := Prod.mk.inj (Option.some.inj h)
      exact ⟨hj, e, rfl⟩
  · rintro ⟨h1, h2, rfl⟩
    exact ⟨i, List.mem_range.mpr h1, by rw [if_neg h2]⟩
theorem mmLv_get {ls : List mmV} {lsA : Array Slot} {nL i t : Nat} (h : lv_has lsA nL (mmLv B b g ls)) (ht : (ls.getD i (0, 0)).1 = t) (h0 : 0 < t) : lsA[i]? = some (.val (mmVal B b g (t, (ls.getD i (0, 0)).2))) := by
  have hi : i < ls.length := by
    apply Classical.byContradiction
    intro hn
    rw [List.getD_eq_getElem?_getD, List.getElem?_eq_none (by omega)] at ht
    simp at ht
    omega
  have := h.2.2 (i, mmVal B b g (ls.getD i (0, 0))) ((mmLv_in B b g).mpr ⟨hi, by omega, rfl⟩)
  rw [← ht]
  exact this
theorem mmVal_cat {v : mmV} : (mmVal B b g v).category = if v.1 = 2 then 2 else 1 := by
  obtain ⟨t, x⟩ := v
  match t with
  | 0 => rfl
  | 1 => rfl
  | 2 => rfl
  | 3 => by_cases e : x = 0 <;> simp [mmVal, e, Value.category]
  | 4 => rfl
  | 5 => rfl
  | t + 6 => simp [mmVal, Value.category]
theorem lv_less {lsA : Array Slot} {nL : Nat} {l l' : List (Nat × Value)} (h : lv_has lsA nL l) (hl : ∀ q ∈ l', q ∈ l) : lv_has lsA nL l' := ⟨h.1, h.2.1, fun q hq => h.2.2 q (hl q hq)⟩
theorem mmUn_len (ls : List mmV) (i : Nat) : (mmUn ls i).length = ls.length := by
  unfold mmUn
  cases i with
  | zero => rfl
  | succ j => simp only []; cases Nat.beq (ls.getD j (0, 0)).1 2 <;> simp
theorem mmSt_len (ls : List mmV) (i t : Nat) (x : Int) : (mmSt ls i t x).length = ls.length := by
  unfold mmSt
  cases Nat.beq t 2 <;> simp [mmUn_len]
/-- what stands in another local behind a store -/
theorem mmUn_at {ls : List mmV} {i j : Nat} (h : ((mmUn ls i).getD j (0, 0)).1 ≠ 0) : (mmUn ls i).getD j (0, 0) = ls.getD j (0, 0) ∧ ¬ (j + 1 = i ∧ (ls.getD j (0, 0)).1 = 2) := by
  cases i with
  | zero => exact ⟨rfl, by omega⟩
  | succ k =>
    unfold mmUn at h ⊢
    simp only [] at h ⊢
    cases e : Nat.beq (ls.getD k (0, 0)).1 2 with
    | false =>
      rw [e] at h
      simp only [cond_false] at h ⊢
      refine ⟨by trivial, fun q => ?_⟩
      have : j = k := by omega
      subst this
      rw [q.2] at e
      cases e
    | true =>
      rw [e] at h
      simp only [cond_true] at h ⊢
      by_cases hk : j = k
      · subst hk
        exfalso
        apply h
        rw [List.getD_eq_getElem?_getD, List.getElem?_set]
        simp
        split <;> rfl
      · rw [List.getD_eq_getElem?_getD, List.getElem?_set_ne (Ne.symm hk), ← List.getD_eq_getElem?_getD]
        exact ⟨rfl, by omega⟩
theorem mm_beq {a b : Nat} (h : Nat.beq a b = true) : a = b := Nat.eq_of_beq_eq_true h
theorem mm_blt {a b : Nat} (h : Nat.blt a b = true) : a < b := by
  unfold Nat.blt at h
  exact Nat.le_of_ble_eq_true h
theorem mm_ble {a b : Nat} (h : Nat.ble a b = true) : a ≤ b := Nat.le_of_ble_eq_true h
theorem getD_set_self {ls : List mmV} {i : Nat} {v : mmV} (h : i < ls.length) : (ls.set i v).getD i (0, 0) = v := by
  rw [List.getD_eq_getElem?_getD, List.getElem?_set_self h]
  rfl
theorem getD_set_ne {ls : List mmV} {i j : Nat} {v : mmV} (h : j ≠ i) : (ls.set i v).getD j (0, 0) = ls.getD j (0, 0) := by
  rw [List.getD_eq_getElem?_getD, List.getElem?_set_ne (Ne.symm h), ← List.getD_eq_getElem?_getD]
/-- a store of one word -/
theorem mmLv_st1 {ls : List mmV} {lsA : Array Slot} {nL i t : Nat} {x : Int} (ht : t ≠ 2) (hf : mmFits ls i t = true)
    (h : lv_has lsA nL ((i, mmVal B b g (t, x)) :: (mmLv B b g ls).filter (fun q => !(q.1 == i) && !(q.1 + 1 == i && q.2.category == 2)))) : lv_has lsA nL (mmLv B b g (mmSt ls i t x)) := by
  have hb : Nat.beq t 2 = false := by
    cases e : Nat.beq t 2 with
    | false => rfl
    | true => exact absurd (mm_beq e) ht
  have hl : i < ls.length := by
    unfold mmFits at hf
    rw [hb] at hf
    exact mm_blt hf
  refine lv_less h fun q hq => ?_
  obtain ⟨j, w⟩ := q
  obtain ⟨h1, h2, rfl⟩ := (mmLv_in B b g).mp hq
  rw [mmSt_len] at h1
  have e : mmSt ls i t x = (mmUn ls i).set i (t, x) := by
    unfold mmSt
    rw [hb]
    rfl
  rw [e] at h2 ⊢
  by_cases hj : j = i
  · subst hj
    rw [getD_set_self (by rw [mmUn_len]; exact hl)]
    exact List.mem_cons_self
  · rw [getD_set_ne hj] at h2 ⊢
    obtain ⟨e1, e2⟩ := mmUn_at h2
    rw [e1] at h2 ⊢
    refine List.mem_cons_of_mem _ (List.mem_filter.mpr ⟨(mmLv_in B b g).mpr ⟨h1, h2, rfl⟩, ?_⟩)
    simp only [mmVal_cat]
    by_cases c1 : j + 1 = i
    · have c2 : ¬ (ls.getD j (0, 0)).1 = 2 := fun q => e2 ⟨c1, q⟩
      simp [hj]; exact Or.inr (by simpa using c2)
    · simp [hj, c1]
/-- a store of two words -/
theorem mmLv_st2 {ls : List mmV} {lsA : Array Slot} {nL i : Nat} {x : Int} (hf : mmFits ls i 2 = true)
    (h : lv_has lsA nL ((i, mmVal B b g (2, x)) :: (mmLv B b g ls).filter (fun q => !(q.1 == i) && (!(q.1 == i + 1) && !(q.1 + 1 == i && q.2.category == 2))))) : lv_has lsA nL (mmLv B b g (mmSt ls i 2 x)) := by
  have hl : i + 1 < ls.length := mm_blt hf
  refine lv_less h fun q hq => ?_
  obtain ⟨j, w⟩ := q
  obtain ⟨h1, h2, rfl⟩ := (mmLv_in B b g).mp hq
  rw [mmSt_len] at h1
  have e : mmSt ls i 2 x = ((mmUn ls i).set i (2, x)).set (i + 1) (0, 0) := rfl
  rw [e] at h2 ⊢
  by_cases hj1 : j = i + 1
  · subst hj1
    rw [getD_set_self (by rw [List.length_set, mmUn_len]; exact hl)] at h2
    exact absurd rfl h2
  rw [getD_set_ne hj1] at h2 ⊢
  by_cases hj : j = i
  · subst hj
    rw [getD_set_self (by rw [mmUn_len]; omega)]
    exact List.mem_cons_self
  · rw [getD_set_ne hj] at h2 ⊢
    obtain ⟨e1, e2⟩ := mmUn_at h2
    rw [e1] at h2 ⊢
    refine List.mem_cons_of_mem _ (List.mem_filter.mpr ⟨(mmLv_in B b g).mpr ⟨h1, h2, rfl⟩, ?_⟩)
    simp only [mmVal_cat]
    by_cases c1 : j + 1 = i
    · have c2 : ¬ (ls.getD j (0, 0)).1 = 2 := fun q => e2 ⟨c1, q⟩
      simp [hj, hj1]; exact Or.inr (by simpa using c2)
    · simp [hj, hj1, c1]
theorem mmSt_ok {n : Int} {ls : List mmV} {i t : Nat} {x : Int} (h : ∀ v ∈ ls, mmOk n v) (hv : mmOk n (t, x)) : ∀ v ∈ mmSt ls i t x, mmOk n v := by
  have hs : ∀ (l : List mmV) (j : Nat) (w : mmV), (∀ v ∈ l, mmOk n v) → mmOk n w → ∀ v ∈ l.set j w, mmOk n v := by
    intro l j w hl hw v hv
    rcases List.mem_or_eq_of_mem_set hv with q | q
    · exact hl v q
    · rw [q]; exact hw
  have hu : ∀ v ∈ mmUn ls i, mmOk n v := by
    unfold mmUn
    cases i with
    | zero => exact h
    | succ j =>
      simp only []
      cases Nat.beq (ls.getD j (0, 0)).1 2 with
      | false => exact h
      | true => exact hs _ _ _ h trivial
  unfold mmSt
  cases Nat.beq t 2 with
  | false => exact hs _ _ _ hu hv
  | true => exact hs _ _ _ (hs _ _ _ hu hv) trivial
theorem mm_getD_ok {n : Int} {ls : List mmV} {i : Nat} (h : ∀ v ∈ ls, mmOk n v) : mmOk n (ls.getD i (0, 0)) := by
  by_cases hi : i < ls.length
  · rw [List.getD_eq_getElem?_getD, List.getElem?_eq_getElem hi]
    exact h _ (List.getElem_mem hi)
  · rw [List.getD_eq_getElem?_getD, List.getElem?_eq_none (by omega)]
    trivial
-- numbers
theorem mm_o32 (x : Int32) : Int32.ofInt x.toInt = x := Int32.ofInt_toInt x
theorem mm_o64 (x : Int64) : Int64.ofInt x.toInt = x := Int64.ofInt_toInt x
theorem mm_t32 {x : Int} (h1 : -2147483648 ≤ x) (h2 : x < 2147483648) : (Int32.ofInt x).toInt = x := Int32.toInt_ofInt_of_le h1 h2
theorem mm_t64 {x : Int} (h1 : -9223372036854775808 ≤ x) (h2 : x < 9223372036854775808) : (Int64.ofInt x).toInt = x := Int64.toInt_ofInt_of_le h1 h2
theorem mm_r32 (x : Int32) : -2147483648 ≤ x.toInt ∧ x.toInt < 2147483648 := ⟨Int32.le_toInt x, Int32.toInt_lt x⟩
theorem mm_r64 (x : Int64) : -9223372036854775808 ≤ x.toInt ∧ x.toInt < 9223372036854775808 := ⟨Int64.le_toInt x, Int64.toInt_lt x⟩
theorem mm_cl {x : Int} (h1 : 0 ≤ x) (h2 : x < 2147483648) : (Int32.ofInt x).toNatClampNeg = x.toNat := by
  show (Int32.ofInt x).toInt.toNat = x.toNat
  rw [mm_t32 (by omega) h2]
theorem mm_in {x : Int} {n : Nat} (h1 : 0 ≤ x) (h2 : x < n) (hn : n < 2147483648) : vp_in (Int32.ofInt x) n := by
  rw [vp_in_iff, mm_t32 (by omega) (by omega)]
  exact ⟨h1, h2⟩
end MW
end
section
/-! ===== mm: one op is one step of the machine ===== -/
/-- a point of a walk: locals, stack, heap -/
def mmIn (sh : Int → Nat × Nat) (tg : Nat → Nat → Nat) (B b g : Nat) (aC : Nat → ClassId) (R : Room) (H0 : Heap) (D : va_G) (cl : List vw_C) (nL n0 z0 : Nat) (ls st : List mmV) (h : mmH) (H : Heap) (locs : List Loc) (lsA : Array Slot) : Prop :=
  lv_has lsA nL (mmLv B b g ls) ∧ ls.length = nL ∧ (∀ v ∈ ls, mmOk (h 0 0) v) ∧ (∀ v ∈ st, mmOk (h 0 0) v) ∧ mmWH sh tg B b g aC D cl H0 h H locs ∧ (n0 : Int) ≤ h 0 0 ∧ (z0 : Int) ≤ h 0 1 ∧ (h 0 0).toNat - n0 ≤ R.cells ∧ (h 0 1).toNat - z0 ≤ R.slots
def mmKS (sh : Int → Nat × Nat) (tg : Nat → Nat → Nat) (B b g : Nat) (aC : Nat → ClassId) (p : Program) (l : Launch) (e : Env) (R : Room) (s : State) (m : MethodId) (args : Array Value) (below : List Frame) (meth : Method) (c : Code) (H0 : Heap) (D : va_G) (cl : List vw_C) (nL n0 z0 : Nat) (Qm : State → Prop) (pc : Nat) (k : mmKont) : Prop :=
  ∀ (ls st : List mmV) (h : mmH) (H : Heap) (locs : List Loc) (lsA : Array Slot), k ls st h → mmIn sh tg B b g aC R H0 D cl nL n0 z0 ls st h H locs lsA →
    W p l e R s m args below meth c H locs ((h 0 0).toNat - n0) ((h 0 1).toNat - z0) Qm (F0 m pc lsA (st.map (mmVal B b g)))
section MR
variable {sh : Int → Nat × Nat} {tg : Nat → Nat → Nat} {B b g : Nat} {aC : Nat → ClassId} {p : Program} {l : Launch} {e : Env} {R : Room} {s : State} {m : MethodId} {args : Array Value} {below : List Frame} {meth : Method} {c : Code} {H0 : Heap} {D : va_G} {cl : List vw_C} {nL n0 z0 : Nat} {Qm : State → Prop}
theorem mmIn.stk {ls st st' : List mmV} {h : mmH} {H : Heap} {locs : List Loc} {lsA : Array Slot} (hA : mmIn sh tg B b g aC R H0 D cl nL n0 z0 ls st h H locs lsA) (hs : ∀ v ∈ st', mmOk (h 0 0) v) : mmIn sh tg B b g aC R H0 D cl nL n0 z0 ls st' h H locs lsA := ⟨hA.1, hA.2.1, hA.2.2.1, hs, hA.2.2.2.2⟩
theorem mm_cons {n : Int} {v : mmV} {st : List mmV} (h1 : mmOk n v) (h2 : ∀ w ∈ st, mmOk n w) : ∀ w ∈ v :: st, mmOk n w := fun w hw => by
  rcases List.mem_cons.mp hw with q | q
  · rw [q]; exact h1
  · exact h2 w q
theorem mm_tail {n : Int} {v : mmV} {st : List mmV} (h : ∀ w ∈ v :: st, mmOk n w) : ∀ w ∈ st, mmOk n w := fun w hw => h w (List.mem_cons_of_mem _ hw)
theorem mm_head {n : Int} {v : mmV} {st : List mmV} (h : ∀ w ∈ v :: st, mmOk n w) : mmOk n v := h v List.mem_cons_self
theorem mm_ok1 {n : Int} (x : Int32) : mmOk n (1, x.toInt) := mm_r32 x
theorem mm_ok2 {n : Int} (x : Int64) : mmOk n (2, x.toInt) := mm_r64 x
variable {pc : Nat} {k : mmKont} {cc : ByteArray}
/-- an int that isn't changed by what stands on it -/
theorem ks_push1 (hx : p.tables.exec = Jvm.exec) (hb : c.code = cc) {i : Int} {x : Int} {len : Nat} (hr : -2147483648 ≤ x ∧ x < 2147483648)
    (hd : (decode cc pc = .ok (.iconst i, 1) ∧ len = 1 ∧ Int32.ofInt i = Int32.ofInt x) ∨ (decode cc pc = .ok (.bipush i, 2) ∧ len = 2 ∧ (Int8.ofInt i).toInt32 = Int32.ofInt x) ∨ (decode cc pc = .ok (.sipush i, 3) ∧ len = 3 ∧ (Int16.ofInt i).toInt32 = Int32.ofInt x))
    (hk : mmKS sh tg B b g aC p l e R s m args below meth c H0 D cl nL n0 z0 Qm (pc + len) k) : mmKS sh tg B b g aC p l e R s m args below meth c H0 D cl nL n0 z0 Qm pc (oPush 1 x k) := by
  intro ls st h H locs lsA hp hA
  have h2 := hk ls ((1, x) :: st) h H locs lsA hp (hA.stk (mm_cons hr hA.2.2.2.1))
  rcases hd with ⟨hd, rfl, hv⟩ | ⟨hd, rfl, hv⟩ | ⟨hd, rfl, hv⟩
  · exact lv_iconst hx hb hd hv h2
  · exact lv_bipush hx hb hd hv h2
  · exact lv_sipush hx hb hd hv h2
theorem ks_ldc (hx : p.tables.exec = Jvm.exec) (hb : c.code = cc) {own : String} {idx : Nat} {x : Int} (hr : -2147483648 ≤ x ∧ x < 2147483648) (hown : s.vm.findClass own = some m.cls) (hc : (Jvm.Cond.constant own idx (Int32.ofInt x)).before args s = true)
    (hd : decode cc pc = .ok (.ldc idx, 2)) (hk : mmKS sh tg B b g aC p l e R s m args below meth c H0 D cl nL n0 z0 Qm (pc + 2) k) : mmKS sh tg B b g aC p l e R s m args below meth c H0 D cl nL n0 z0 Qm pc (oPush 1 x k) := by
  intro ls st h H locs lsA hp hA
  exact lv_ldc hx hb hown hc hd (hk ls ((1, x) :: st) h H locs lsA hp (hA.stk (mm_cons hr hA.2.2.2.1)))
theorem ks_ldcw (hx : p.tables.exec = Jvm.exec) (hb : c.code = cc) {own : String} {idx : Nat} {x : Int} (hr : -2147483648 ≤ x ∧ x < 2147483648) (hown : s.vm.findClass own = some m.cls) (hc : (Jvm.Cond.constant own idx (Int32.ofInt x)).before args s = true)
    (hd : decode cc pc = .ok (.ldc_w idx, 3)) (hk : mmKS sh tg B b g aC p l e R s m args below meth c H0 D cl nL n0 z0 Qm (pc + 3) k) : mmKS sh tg B b g aC p l e R s m args below meth c H0 D cl nL n0 z0 Qm pc (oPush 1 x k) := by
  intro ls st h H locs lsA hp hA
  exact lv_ldcw hx hb hown hc hd (hk ls ((1, x) :: st) h H locs lsA hp (hA.stk (mm_cons hr hA.2.2.2.1)))
theorem ks_ldc2 (hx : p.tables.exec = Jvm.exec) (hb : c.code = cc) {own : String} {idx : Nat} {x : Int} (hr : -9223372036854775808 ≤ x ∧ x < 9223372036854775808) (hown : s.vm.findClass own = some m.cls) (hc : (Jvm.Cond.constantLong own idx (Int64.ofInt x)).before args s = true)
    (hd : decode cc pc = .ok (.ldc2_w idx, 3)) (hk : mmKS sh tg B b g aC p l e R s m args below meth c H0 D cl nL n0 z0 Qm (pc + 3) k) : mmKS sh tg B b g aC p l e R s m args below meth c H0 D cl nL n0 z0 Qm pc (oPush 2 x k) := by
  intro ls st h H locs lsA hp hA
  exact lv_ldc2 hx hb hown hc hd (hk ls ((2, x) :: st) h H locs lsA hp (hA.stk (mm_cons hr hA.2.2.2.1)))
theorem ks_lconst (hx : p.tables.exec = Jvm.exec) (hb : c.code = cc) {i : Fin 2} {x : Int} (hr : x = (i.val : Int)) (hd : decode cc pc = .ok (.lconst i, 1)) (hk : mmKS sh tg B b g aC p l e R s m args below meth c H0 D cl nL n0 z0 Qm (pc + 1) k) : mmKS sh tg B b g aC p l e R s m args below meth c H0 D cl nL n0 z0 Qm pc (oPush 2 x k) := by
  intro ls st h H locs lsA hp hA
  have hi := i.isLt
  have hr2 : -9223372036854775808 ≤ x ∧ x < 9223372036854775808 := by omega
  refine lv_lconst hx hb hd ?_ (hk ls ((2, x) :: st) h H locs lsA hp (hA.stk (mm_cons hr2 hA.2.2.2.1)))
  rw [hr]
  exact Int64.ofInt_eq_ofNat.symm
theorem ks_load (hx : p.tables.exec = Jvm.exec) (hb : c.code = cc) {i t len : Nat}
    (hd : (t = 1 ∧ ((∃ q : Fin 4, decode cc pc = .ok (.iload_n q, 1) ∧ q.val = i ∧ len = 1) ∨ (decode cc pc = .ok (.iload i, 2) ∧ len = 2))) ∨ (t = 2 ∧ ((∃ q : Fin 4, decode cc pc = .ok (.lload_n q, 1) ∧ q.val = i ∧ len = 1) ∨ (decode cc pc = .ok (.lload i, 2) ∧ len = 2))))
    (hk : mmKS sh tg B b g aC p l e R s m args below meth c H0 D cl nL n0 z0 Qm (pc + len) k) : mmKS sh tg B b g aC p l e R s m args below meth c H0 D cl nL n0 z0 Qm pc (oLoad i t k) := by
  intro ls st h H locs lsA hp hA
  obtain ⟨ht, hp⟩ := mmG_iff.mp hp
  simp only [Bool.and_eq_true] at ht
  have e1 := mm_beq ht.1
  have hg := mmLv_get B b g hA.1 e1 (mm_blt ht.2)
  have hok : mmOk (h 0 0) (t, (ls.getD i (0, 0)).2) := by
    have := mm_getD_ok (i := i) hA.2.2.1
    rw [← e1]
    exact this
  have h2 := hk ls ((t, (ls.getD i (0, 0)).2) :: st) h H locs lsA hp (hA.stk (mm_cons hok hA.2.2.2.1))
  rcases hd with ⟨rfl, hd⟩ | ⟨rfl, hd⟩
  · rcases hd with ⟨q, hd, rfl, rfl⟩ | ⟨hd, rfl⟩
    · exact lv_iload_n hx hb hd rfl hg h2
    · exact lv_iload hx hb hd hg h2
  · rcases hd with ⟨q, hd, rfl, rfl⟩ | ⟨hd, rfl⟩
    · exact lv_lload_n hx hb hd rfl hg h2
    · exact lv_lload hx hb hd hg h2
theorem ks_aload (hx : p.tables.exec = Jvm.exec) (hb : c.code = cc) {i t len : Nat} (ht3 : t = 3 ∨ t = 4 ∨ t = 5) (hd : (∃ q : Fin 4, decode cc pc = .ok (.aload_n q, 1) ∧ q.val = i ∧ len = 1) ∨ (decode cc pc = .ok (.aload i, 2) ∧ len = 2))
    (hk : mmKS sh tg B b g aC p l e R s m args below meth c H0 D cl nL n0 z0 Qm (pc + len) k) : mmKS sh tg B b g aC p l e R s m args below meth c H0 D cl nL n0 z0 Qm pc (oLoad i t k) := by
  intro ls st h H locs lsA hp hA
  obtain ⟨ht, hp⟩ := mmG_iff.mp hp
  simp only [Bool.and_eq_true] at ht
  have e1 := mm_beq ht.1
  have hg := mmLv_get B b g hA.1 e1 (mm_blt ht.2)
  have hok : mmOk (h 0 0) (t, (ls.getD i (0, 0)).2) := by
    have := mm_getD_ok (i := i) hA.2.2.1
    rw [← e1]
    exact this
  have h2 := hk ls ((t, (ls.getD i (0, 0)).2) :: st) h H locs lsA hp (hA.stk (mm_cons hok hA.2.2.2.1))
  have hv : mmVal B b g (t, (ls.getD i (0, 0)).2) = .null ∨ ∃ a, mmVal B b g (t, (ls.getD i (0, 0)).2) = .ref a := by
    rcases ht3 with rfl | rfl | rfl
    · by_cases q : (ls.getD i (0, 0)).2 = 0
      · left; simp only [mmVal, q, if_true]
      · right; exact ⟨B + (ls.getD i (0, 0)).2.toNat, by simp only [mmVal, q, if_false]⟩
    · exact Or.inr ⟨_, rfl⟩
    · exact Or.inr ⟨_, rfl⟩
  rw [List.map_cons] at h2
  rcases hv with hv | ⟨a, hv⟩
  · rw [hv] at hg h2
    rcases hd with ⟨q, hd, rfl, rfl⟩ | ⟨hd, rfl⟩
    · exact lv_aload_nN hx hb hd rfl hg h2
    · exact lv_aloadN hx hb hd hg h2
  · rw [hv] at hg h2
    rcases hd with ⟨q, hd, rfl, rfl⟩ | ⟨hd, rfl⟩
    · exact lv_aload_n hx hb hd rfl hg h2
    · exact lv_aload hx hb hd hg h2
theorem mmIn.sto {ls st st' : List mmV} {h : mmH} {H : Heap} {locs : List Loc} {lsA lsB : Array Slot} {i t : Nat} {x : Int} (hA : mmIn sh tg B b g aC R H0 D cl nL n0 z0 ls st h H locs lsA) (hl : lv_has lsB nL (mmLv B b g (mmSt ls i t x))) (hv : mmOk (h 0 0) (t, x)) (hs : ∀ v ∈ st', mmOk (h 0 0) v) : mmIn sh tg B b g aC R H0 D cl nL n0 z0 (mmSt ls i t x) st' h H locs lsB :=
  ⟨hl, by rw [mmSt_len]; exact hA.2.1, mmSt_ok hA.2.2.1 hv, hs, hA.2.2.2.2⟩
theorem mm_fits1 {ls : List mmV} {i t : Nat} (ht : t ≠ 2) (h : mmFits ls i t = true) : i < ls.length := by
  unfold mmFits at h
  cases e : Nat.beq t 2 with
  | false => rw [e] at h; exact mm_blt h
  | true => exact absurd (mm_beq e) ht
theorem ks_istore (hx : p.tables.exec = Jvm.exec) (hb : c.code = cc) {i len : Nat} (hd : (∃ q : Fin 4, decode cc pc = .ok (.istore_n q, 1) ∧ q.val = i ∧ len = 1) ∨ (decode cc pc = .ok (.istore i, 2) ∧ len = 2))
    (hk : mmKS sh tg B b g aC p l e R s m args below meth c H0 D cl nL n0 z0 Qm (pc + len) k) : mmKS sh tg B b g aC p l e R s m args below meth c H0 D cl nL n0 z0 Qm pc (oStore i 1 k) := by
  intro ls st h H locs lsA hp hA
  match st, hp, hA with
  | ⟨t, x⟩ :: r, hp, hA =>
    obtain ⟨ht, hp⟩ := mmG_iff.mp hp
    simp only [Bool.and_eq_true] at ht
    have e1 : t = 1 := mm_beq ht.1
    subst e1
    have hn := mm_fits1 (t := 1) (by omega) ht.2
    have hn2 : i < nL := by rw [← hA.2.1]; exact hn
    have hs := hA.2.2.2.1
    rcases hd with ⟨q, hd, rfl, rfl⟩ | ⟨hd, rfl⟩
    · exact lv_istore_n hx hb hd rfl hA.1 hn2 rfl fun ls' h' => hk _ r h H locs ls' hp (hA.sto (mmLv_st1 B b g (by omega) ht.2 h') (mm_head hs) (mm_tail hs))
    · exact lv_istore hx hb hd hA.1 hn2 rfl fun ls' h' => hk _ r h H locs ls' hp (hA.sto (mmLv_st1 B b g (by omega) ht.2 h') (mm_head hs) (mm_tail hs))
theorem ks_lstore (hx : p.tables.exec = Jvm.exec) (hb : c.code = cc) {i len : Nat} (hd : (∃ q : Fin 4, decode cc pc = .ok (.lstore_n q, 1) ∧ q.val = i ∧ len = 1) ∨ (decode cc pc = .ok (.lstore i, 2) ∧ len = 2))
    (hk : mmKS sh tg B b g aC p l e R s m args below meth c H0 D cl nL n0 z0 Qm (pc + len) k) : mmKS sh tg B b g aC p l e R s m args below meth c H0 D cl nL n0 z0 Qm pc (oStore i 2 k) := by
  intro ls st h H locs lsA hp hA
  match st, hp, hA with
  | ⟨t, x⟩ :: r, hp, hA =>
    obtain ⟨ht, hp⟩ := mmG_iff.mp hp
    simp only [Bool.and_eq_true] at ht
    have e1 : t = 2 := mm_beq ht.1
    subst e1
    have hn : i + 1 < ls.length := mm_blt ht.2
    have hn2 : i + 1 < nL := by rw [← hA.2.1]; exact hn
    have hs := hA.2.2.2.1
    rcases hd with ⟨q, hd, rfl, rfl⟩ | ⟨hd, rfl⟩
    · exact lv_lstore_n hx hb hd rfl hA.1 hn2 rfl fun ls' h' => hk _ r h H locs ls' hp (hA.sto (mmLv_st2 B b g ht.2 h') (mm_head hs) (mm_tail hs))
    · exact lv_lstore hx hb hd hA.1 hn2 rfl fun ls' h' => hk _ r h H locs ls' hp (hA.sto (mmLv_st2 B b g ht.2 h') (mm_head hs) (mm_tail hs))
theorem ks_astore (hx : p.tables.exec = Jvm.exec) (hb : c.code = cc) {i len : Nat} (hd : (∃ q : Fin 4, decode cc pc = .ok (.astore_n q, 1) ∧ q.val = i ∧ len = 1) ∨ (decode cc pc = .ok (.astore i, 2) ∧ len = 2))
    (hk : mmKS sh tg B b g aC p l e R s m args below meth c H0 D cl nL n0 z0 Qm (pc + len) k) : mmKS sh tg B b g aC p l e R s m args below meth c H0 D cl nL n0 z0 Qm pc (oStore i 3 k) := by
  intro ls st h H locs lsA hp hA
  match st, hp, hA with
  | ⟨t, x⟩ :: r, hp, hA =>
    obtain ⟨ht, hp⟩ := mmG_iff.mp hp
    simp only [Bool.and_eq_true] at ht
    have e1 : t = 3 := mm_beq ht.1
    subst e1
    have hn := mm_fits1 (t := 3) (by omega) ht.2
    have hn2 : i < nL := by rw [← hA.2.1]; exact hn
    have hs := hA.2.2.2.1
    have key : ∀ ls' : Array Slot, lv_has ls' nL ((i, mmVal B b g (3, x)) :: (mmLv B b g ls).filter (fun q => !(q.1 == i) && !(q.1 + 1 == i && q.2.category == 2))) → W p l e R s m args below meth c H locs ((h 0 0).toNat - n0) ((h 0 1).toNat - z0) Qm (F0 m (pc + len) ls' (r.map (mmVal B b g))) :=
      fun ls' h' => hk _ r h H locs ls' hp (hA.sto (mmLv_st1 B b g (by omega) ht.2 h') (mm_head hs) (mm_tail hs))
    rw [List.map_cons]
    by_cases q0 : x = 0
    · have hv : mmVal B b g (3, x) = .null := by simp only [mmVal, q0, if_true]
      rw [hv] at key ⊢
      rcases hd with ⟨q, hd, rfl, rfl⟩ | ⟨hd, rfl⟩
      · exact lv_astore_nN hx hb hd rfl hA.1 hn2 rfl key
      · exact lv_astoreN hx hb hd hA.1 hn2 rfl key
    · have hv : mmVal B b g (3, x) = .ref (B + x.toNat) := by simp only [mmVal, q0, if_false]
      rw [hv] at key ⊢
      rcases hd with ⟨q, hd, rfl, rfl⟩ | ⟨hd, rfl⟩
      · exact lv_astore_n hx hb hd rfl hA.1 hn2 rfl key
      · exact lv_astore hx hb hd hA.1 hn2 rfl key
theorem ks_iinc (hx : p.tables.exec = Jvm.exec) (hb : c.code = cc) {i : Nat} {x : Int} (hd : decode cc pc = .ok (.iinc i x, 3)) (hk : mmKS sh tg B b g aC p l e R s m args below meth c H0 D cl nL n0 z0 Qm (pc + 3) k) : mmKS sh tg B b g aC p l e R s m args below meth c H0 D cl nL n0 z0 Qm pc (oIinc i x k) := by
  intro ls st h H locs lsA hp hA
  obtain ⟨ht, hp⟩ := mmG_iff.mp hp
  simp only [Bool.and_eq_true] at ht
  have e1 := mm_beq ht.1
  have hn := mm_fits1 (t := 1) (by omega) ht.2
  have hn2 : i < nL := by rw [← hA.2.1]; exact hn
  have hm : (i, mmVal B b g (1, (ls.getD i (0, 0)).2)) ∈ mmLv B b g ls := by
    refine (mmLv_in B b g).mpr ⟨hn, by omega, ?_⟩
    rw [← e1]
  obtain ⟨kq, hkq⟩ := List.getElem?_of_mem hm
  exact lv_iinc hx hb hd hA.1 hkq rfl hn2 rfl fun ls' h' => hk _ st h H locs ls' hp (hA.sto (mmLv_st1 B b g (by omega) ht.2 (by
    have e2 : mmVal B b g (1, mAdd (ls.getD i (0, 0)).2 x) = .int (Int32.ofInt (ls.getD i (0, 0)).2 + Int32.ofInt x) := by
      show Value.int (Int32.ofInt (mAdd _ _)) = _
      rw [mAdd_def]
      rw [mm_o32]
    rw [e2]
    exact h')) (by rw [mAdd_def]; exact mm_ok1 _) hA.2.2.2.1)
/-- two ints give one -/
theorem ks_i2 {f : Nat} {len : Nat} (hs : ∀ (x y : Int) (H : Heap) (locs : List Loc) (n z : Nat) (lsA : Array Slot) (r : List Value), W p l e R s m args below meth c H locs n z Qm (F0 m (pc + len) lsA (.int (Int32.ofInt (mI2 f x y)) :: r)) → W p l e R s m args below meth c H locs n z Qm (F0 m pc lsA (.int (Int32.ofInt y) :: .int (Int32.ofInt x) :: r)))
    (hr : ∀ x y : Int, -2147483648 ≤ mI2 f x y ∧ mI2 f x y < 2147483648) (hk : mmKS sh tg B b g aC p l e R s m args below meth c H0 D cl nL n0 z0 Qm (pc + len) k) : mmKS sh tg B b g aC p l e R s m args below meth c H0 D cl nL n0 z0 Qm pc (oI2 f k) := by
  intro ls st h H locs lsA hp hA
  match st, hp, hA with
  | ⟨t1, y⟩ :: ⟨t2, x⟩ :: r, hp, hA =>
    obtain ⟨ht, hp⟩ := mmG_iff.mp hp
    simp only [Bool.and_eq_true] at ht
    have e1 : t1 = 1 := mm_beq ht.1
    have e2 : t2 = 1 := mm_beq ht.2
    subst e1; subst e2
    exact hs x y H locs _ _ lsA _ (hk ls _ h H locs lsA hp (hA.stk (mm_cons (hr x y) (mm_tail (mm_tail hA.2.2.2.1)))))
theorem ks_l2 {f : Nat} {len : Nat} (hs : ∀ (x y : Int) (H : Heap) (locs : List Loc) (n z : Nat) (lsA : Array Slot) (r : List Value), W p l e R s m args below meth c H locs n z Qm (F0 m (pc + len) lsA (.long (Int64.ofInt (nI2 f x y)) :: r)) → W p l e R s m args below meth c H locs n z Qm (F0 m pc lsA (.long (Int64.ofInt y) :: .long (Int64.ofInt x) :: r)))
    (hr : ∀ x y : Int, -9223372036854775808 ≤ nI2 f x y ∧ nI2 f x y < 9223372036854775808) (hk : mmKS sh tg B b g aC p l e R s m args below meth c H0 D cl nL n0 z0 Qm (pc + len) k) : mmKS sh tg B b g aC p l e R s m args below meth c H0 D cl nL n0 z0 Qm pc (oL2 f k) := by
  intro ls st h H locs lsA hp hA
  match st, hp, hA with
  | ⟨t1, y⟩ :: ⟨t2, x⟩ :: r, hp, hA =>
    obtain ⟨ht, hp⟩ := mmG_iff.mp hp
    simp only [Bool.and_eq_true] at ht
    have e1 : t1 = 2 := mm_beq ht.1
    have e2 : t2 = 2 := mm_beq ht.2
    subst e1; subst e2
    exact hs x y H locs _ _ lsA _ (hk ls _ h H locs lsA hp (hA.stk (mm_cons (hr x y) (mm_tail (mm_tail hA.2.2.2.1)))))
theorem ks_int (hx : p.tables.exec = Jvm.exec) (hb : c.code = cc) {f : Nat} (hd : (f = 0 ∧ decode cc pc = .ok (.iadd, 1)) ∨ (f = 1 ∧ decode cc pc = .ok (.isub, 1)) ∨ (f = 2 ∧ decode cc pc = .ok (.imul, 1)) ∨ (f = 3 ∧ decode cc pc = .ok (.iand, 1)) ∨ (f = 4 ∧ decode cc pc = .ok (.ior, 1)) ∨ (f = 5 ∧ decode cc pc = .ok (.ixor, 1)) ∨ (f = 6 ∧ decode cc pc = .ok (.ishl, 1)) ∨ (f = 7 ∧ decode cc pc = .ok (.ishr, 1)) ∨ (f = 8 ∧ decode cc pc = .ok (.iushr, 1)))
    (hk : mmKS sh tg B b g aC p l e R s m args below meth c H0 D cl nL n0 z0 Qm (pc + 1) k) : mmKS sh tg B b g aC p l e R s m args below meth c H0 D cl nL n0 z0 Qm pc (oI2 f k) := by
  rcases hd with ⟨rfl, hd⟩ | ⟨rfl, hd⟩ | ⟨rfl, hd⟩ | ⟨rfl, hd⟩ | ⟨rfl, hd⟩ | ⟨rfl, hd⟩ | ⟨rfl, hd⟩ | ⟨rfl, hd⟩ | ⟨rfl, hd⟩
  · exact ks_i2 (fun x y H locs n z lsA r h => lv_iadd hx hb hd (by simp only [mI2, mAdd_def, mm_o32] at h; exact h)) (fun x y => by simp only [mI2, mAdd_def]; exact mm_r32 _) hk
  · exact ks_i2 (fun x y H locs n z lsA r h => lv_isub hx hb hd (by simp only [mI2, mSub_def, mm_o32] at h; exact h)) (fun x y => by simp only [mI2, mSub_def]; exact mm_r32 _) hk
  · exact ks_i2 (fun x y H locs n z lsA r h => lv_imul hx hb hd (by simp only [mI2, mMul_def, mm_o32] at h; exact h)) (fun x y => by simp only [mI2, mMul_def]; exact mm_r32 _) hk
  · exact ks_i2 (fun x y H locs n z lsA r h => lv_iand hx hb hd (by simp only [mI2, mAnd_def, mm_o32] at h; exact h)) (fun x y => by simp only [mI2, mAnd_def]; exact mm_r32 _) hk
  · exact ks_i2 (fun x y H locs n z lsA r h => lv_ior hx hb hd (by simp only [mI2, mOr_def, mm_o32] at h; exact h)) (fun x y => by simp only [mI2, mOr_def]; exact mm_r32 _) hk
  · exact ks_i2 (fun x y H locs n z lsA r h => lv_ixor hx hb hd (by simp only [mI2, mXor_def, mm_o32] at h; exact h)) (fun x y => by simp only [mI2, mXor_def]; exact mm_r32 _) hk
  · exact ks_i2 (fun x y H locs n z lsA r h => lv_ishl hx hb hd (by simp only [mI2, mShl_def, mm_o32] at h; exact h)) (fun x y => by simp only [mI2, mShl_def]; exact mm_r32 _) hk
  · exact ks_i2 (fun x y H locs n z lsA r h => lv_ishr hx hb hd (by simp only [mI2, mShr_def, mm_o32] at h; exact h)) (fun x y => by simp only [mI2, mShr_def]; exact mm_r32 _) hk
  · exact ks_i2 (fun x y H locs n z lsA r h => lv_iushr hx hb hd rfl (by simp only [mI2, mUshr_def, mm_o32] at h; exact h)) (fun x y => by simp only [mI2, mUshr_def]; exact mm_r32 _) hk
theorem ks_long (hx : p.tables.exec = Jvm.exec) (hb : c.code = cc) {f : Nat} (hd : (f = 0 ∧ decode cc pc = .ok (.ladd, 1)) ∨ (f = 1 ∧ decode cc pc = .ok (.lsub, 1)) ∨ (f = 2 ∧ decode cc pc = .ok (.lmul, 1)) ∨ (f = 3 ∧ decode cc pc = .ok (.land, 1)) ∨ (f = 4 ∧ decode cc pc = .ok (.lor, 1)) ∨ (f = 5 ∧ decode cc pc = .ok (.lxor, 1)))
    (hk : mmKS sh tg B b g aC p l e R s m args below meth c H0 D cl nL n0 z0 Qm (pc + 1) k) : mmKS sh tg B b g aC p l e R s m args below meth c H0 D cl nL n0 z0 Qm pc (oL2 f k) := by
  rcases hd with ⟨rfl, hd⟩ | ⟨rfl, hd⟩ | ⟨rfl, hd⟩ | ⟨rfl, hd⟩ | ⟨rfl, hd⟩ | ⟨rfl, hd⟩
  · exact ks_l2 (fun x y H locs n z lsA r h => lv_ladd hx hb hd (by simp only [nI2, nAdd_def, mm_o64] at h; exact h)) (fun x y => by simp only [nI2, nAdd_def]; exact mm_r64 _) hk
  · exact ks_l2 (fun x y H locs n z lsA r h => lv_lsub hx hb hd (by simp only [nI2, nSub_def, mm_o64] at h; exact h)) (fun x y => by simp only [nI2, nSub_def]; exact mm_r64 _) hk
  · exact ks_l2 (fun x y H locs n z lsA r h => lv_lmul hx hb hd (by simp only [nI2, nMul_def, mm_o64] at h; exact h)) (fun x y => by simp only [nI2, nMul_def]; exact mm_r64 _) hk
  · exact ks_l2 (fun x y H locs n z lsA r h => lv_land hx hb hd (by simp only [nI2, nAnd_def, mm_o64] at h; exact h)) (fun x y => by simp only [nI2, nAnd_def]; exact mm_r64 _) hk
  · exact ks_l2 (fun x y H locs n z lsA r h => lv_lor hx hb hd (by simp only [nI2, nOr_def, mm_o64] at h; exact h)) (fun x y => by simp only [nI2, nOr_def]; exact mm_r64 _) hk
  · exact ks_l2 (fun x y H locs n z lsA r h => lv_lxor hx hb hd (by simp only [nI2, nXor_def, mm_o64] at h; exact h)) (fun x y => by simp only [nI2, nXor_def]; exact mm_r64 _) hk
theorem mm_n032 {y : Int} (h1 : -2147483648 ≤ y) (h2 : y < 2147483648) (h : y ≠ 0) : ¬ Int32.ofInt y = 0 := fun q => h (by
  have := congrArg Int32.toInt q
  rw [mm_t32 h1 h2] at this
  exact this)
theorem mm_n064 {y : Int} (h1 : -9223372036854775808 ≤ y) (h2 : y < 9223372036854775808) (h : y ≠ 0) : ¬ Int64.ofInt y = 0 := fun q => h (by
  have := congrArg Int64.toInt q
  rw [mm_t64 h1 h2] at this
  exact this)
theorem ks_div (hx : p.tables.exec = Jvm.exec) (hb : c.code = cc) {f : Nat} (hd : (f = 0 ∧ decode cc pc = .ok (.idiv, 1)) ∨ (f = 1 ∧ decode cc pc = .ok (.irem, 1)) ∨ (f = 2 ∧ decode cc pc = .ok (.ldiv, 1)) ∨ (f = 3 ∧ decode cc pc = .ok (.lrem, 1)))
    (hk : mmKS sh tg B b g aC p l e R s m args below meth c H0 D cl nL n0 z0 Qm (pc + 1) k) : mmKS sh tg B b g aC p l e R s m args below meth c H0 D cl nL n0 z0 Qm pc (oDv f k) := by
  intro ls st h H locs lsA hp hA
  match st, hp, hA with
  | ⟨t1, y⟩ :: ⟨t2, x⟩ :: r, hp, hA =>
    have hs := hA.2.2.2.1
    rcases hd with ⟨rfl, hd⟩ | ⟨rfl, hd⟩ | ⟨rfl, hd⟩ | ⟨rfl, hd⟩
    · obtain ⟨ht, hp⟩ := mmG_iff.mp hp
      obtain ⟨h0, hp⟩ := mmD_iff.mp hp
      simp only [Bool.and_eq_true] at ht
      have e1 : t1 = 1 := mm_beq ht.1
      have e2 : t2 = 1 := mm_beq ht.2
      subst e1; subst e2
      have hy := mm_head hs
      have h2 := hk ls _ h H locs lsA hp (hA.stk (mm_cons (by rw [mDiv_def]; exact mm_ok1 _) (mm_tail (mm_tail hs))))
      rw [List.map_cons] at h2
      exact lv_idiv hx hb hd (mm_n032 hy.1 hy.2 h0) (by simp only [mmVal, mDiv_def, mm_o32] at h2; exact h2)
    · obtain ⟨ht, hp⟩ := mmG_iff.mp hp
      obtain ⟨h0, hp⟩ := mmD_iff.mp hp
      simp only [Bool.and_eq_true] at ht
      have e1 : t1 = 1 := mm_beq ht.1
      have e2 : t2 = 1 := mm_beq ht.2
      subst e1; subst e2
      have hy := mm_head hs
      have h2 := hk ls _ h H locs lsA hp (hA.stk (mm_cons (by rw [mRem_def]; exact mm_ok1 _) (mm_tail (mm_tail hs))))
      rw [List.map_cons] at h2
      exact lv_irem hx hb hd (mm_n032 hy.1 hy.2 h0) (by simp only [mmVal, mRem_def, mm_o32] at h2; exact h2)
    · obtain ⟨ht, hp⟩ := mmG_iff.mp hp
      obtain ⟨h0, hp⟩ := mmD_iff.mp hp
      simp only [Bool.and_eq_true] at ht
      have e1 : t1 = 2 := mm_beq ht.1
      have e2 : t2 = 2 := mm_beq ht.2
      subst e1; subst e2
      have hy := mm_head hs
      have h2 := hk ls _ h H locs lsA hp (hA.stk (mm_cons (by rw [nDiv_def]; exact mm_ok2 _) (mm_tail (mm_tail hs))))
      rw [List.map_cons] at h2
      exact lv_ldiv hx hb hd (mm_n064 hy.1 hy.2 h0) (by simp only [mmVal, nDiv_def, mm_o64] at h2; exact h2)
    · obtain ⟨ht, hp⟩ := mmG_iff.mp hp
      obtain ⟨h0, hp⟩ := mmD_iff.mp hp
      simp only [Bool.and_eq_true] at ht
      have e1 : t1 = 2 := mm_beq ht.1
      have e2 : t2 = 2 := mm_beq ht.2
      subst e1; subst e2
      have hy := mm_head hs
      have h2 := hk ls _ h H locs lsA hp (hA.stk (mm_cons (by rw [nRem_def]; exact mm_ok2 _) (mm_tail (mm_tail hs))))
      rw [List.map_cons] at h2
      exact lv_lrem hx hb hd (mm_n064 hy.1 hy.2 h0) (by simp only [mmVal, nRem_def, mm_o64] at h2; exact h2)
theorem ks_cv (hx : p.tables.exec = Jvm.exec) (hb : c.code = cc) {f : Nat} (hd : (f = 0 ∧ decode cc pc = .ok (.i2l, 1)) ∨ (f = 1 ∧ decode cc pc = .ok (.l2i, 1))) (hk : mmKS sh tg B b g aC p l e R s m args below meth c H0 D cl nL n0 z0 Qm (pc + 1) k) : mmKS sh tg B b g aC p l e R s m args below meth c H0 D cl nL n0 z0 Qm pc (oCv f k) := by
  intro ls st h H locs lsA hp hA
  match st, hp, hA with
  | ⟨t1, x⟩ :: r, hp, hA =>
    have hs := hA.2.2.2.1
    rcases hd with ⟨rfl, hd⟩ | ⟨rfl, hd⟩
    · obtain ⟨ht, hp⟩ := mmG_iff.mp hp
      have e1 : t1 = 1 := mm_beq ht
      subst e1
      have hy := mm_head hs
      have h1 := hy.1
      have h3 := hy.2
      simp only [] at h1 h3
      have h2 := hk ls _ h H locs lsA hp (hA.stk (mm_cons (show mmOk (h 0 0) (2, x) from ⟨by show _ ≤ x; omega, by show x < _; omega⟩) (mm_tail hs)))
      refine lv_i2l hx hb hd ?_ h2
      apply Int64.toInt_inj.mp
      rw [Int32.toInt_toInt64, mm_t32 h1 h3]
      exact (mm_t64 (by omega) (by omega)).symm
    · obtain ⟨ht, hp⟩ := mmG_iff.mp hp
      have e1 : t1 = 2 := mm_beq ht
      subst e1
      have h2 := hk ls _ h H locs lsA hp (hA.stk (mm_cons (by rw [mL2i_def]; exact mm_ok1 _) (mm_tail hs)))
      refine lv_l2i hx hb hd ?_ h2
      simp only [mL2i_def, mm_o32]
theorem ks_lcmp (hx : p.tables.exec = Jvm.exec) (hb : c.code = cc) (hd : decode cc pc = .ok (.lcmp, 1)) (hk : mmKS sh tg B b g aC p l e R s m args below meth c H0 D cl nL n0 z0 Qm (pc + 1) k) : mmKS sh tg B b g aC p l e R s m args below meth c H0 D cl nL n0 z0 Qm pc (oLcmp k) := by
  intro ls st h H locs lsA hp hA
  match st, hp, hA with
  | ⟨t1, y⟩ :: ⟨t2, x⟩ :: r, hp, hA =>
    have hs := hA.2.2.2.1
    obtain ⟨ht, hp⟩ := mmG_iff.mp hp
    simp only [Bool.and_eq_true] at ht
    have e1 : t1 = 2 := mm_beq ht.1
    have e2 : t2 = 2 := mm_beq ht.2
    subst e1; subst e2
    have hy := mm_head hs
    have hz := mm_head (mm_tail hs)
    have hr : -2147483648 ≤ mLcmp x y ∧ mLcmp x y < 2147483648 := by
      unfold mLcmp
      split
      · omega
      · split <;> omega
    have h2 := hk ls _ h H locs lsA hp (hA.stk (mm_cons (show mmOk (h 0 0) (1, mLcmp x y) from hr) (mm_tail (mm_tail hs))))
    refine W.lcmp hx hb hd ?_
    have e3 : lg_cmp (Int64.ofInt x) (Int64.ofInt y) = Int32.ofInt (mLcmp x y) := by
      unfold lg_cmp mLcmp
      have c1 : (Int64.ofInt y < Int64.ofInt x) ↔ y < x := by rw [Int64.lt_iff_toInt_lt, mm_t64 hy.1 hy.2, mm_t64 hz.1 hz.2]
      have c2 : (Int64.ofInt x = Int64.ofInt y) ↔ x = y := by rw [← Int64.toInt_inj, mm_t64 hy.1 hy.2, mm_t64 hz.1 hz.2]
      simp only [c1, c2]
      split
      · rfl
      · split <;> rfl
    rw [e3]
    exact h2
theorem mm_nc2 {t : Nat} {x : Int} (h : (!Nat.beq t 2) = true) : (mmVal B b g (t, x)).category = 1 := by
  rw [mmVal_cat]
  by_cases e : t = 2
  · subst e; cases h
  · simp only [e, if_false]
theorem ks_stk (hx : p.tables.exec = Jvm.exec) (hb : c.code = cc) {f : Nat} (hd : (f = 0 ∧ decode cc pc = .ok (.dup, 1)) ∨ (f = 1 ∧ decode cc pc = .ok (.dup2, 1)) ∨ (f = 2 ∧ decode cc pc = .ok (.pop, 1))) (hk : mmKS sh tg B b g aC p l e R s m args below meth c H0 D cl nL n0 z0 Qm (pc + 1) k) : mmKS sh tg B b g aC p l e R s m args below meth c H0 D cl nL n0 z0 Qm pc (oStk f k) := by
  intro ls st h H locs lsA hp hA
  have hs := hA.2.2.2.1
  rcases hd with ⟨rfl, hd⟩ | ⟨rfl, hd⟩ | ⟨rfl, hd⟩
  · match st, hp, hA, hs with
    | ⟨t1, y⟩ :: r, hp, hA, hs =>
      obtain ⟨ht, hp⟩ := mmG_iff.mp hp
      exact lv_dup hx hb hd (mm_nc2 ht) (hk ls _ h H locs lsA hp (hA.stk (mm_cons (mm_head hs) hs)))
  · match st, hp, hA, hs with
    | ⟨t1, y⟩ :: ⟨t2, x⟩ :: r, hp, hA, hs =>
      obtain ⟨ht, hp⟩ := mmG_iff.mp hp
      simp only [Bool.and_eq_true] at ht
      exact lv_dup2_11 hx hb hd (mm_nc2 ht.1) (mm_nc2 ht.2) (hk ls _ h H locs lsA hp (hA.stk (mm_cons (mm_head hs) (mm_cons (mm_head (mm_tail hs)) hs))))
  · match st, hp, hA, hs with
    | ⟨t1, y⟩ :: r, hp, hA, hs =>
      obtain ⟨ht, hp⟩ := mmG_iff.mp hp
      exact lv_pop hx hb hd (mm_nc2 ht) (hk ls _ h H locs lsA hp (hA.stk (mm_tail hs)))
end MR
end
section
/-! ===== mm: jumps, fields, rows of numbers ===== -/
section MR2
variable {sh : Int → Nat × Nat} {tg : Nat → Nat → Nat} {B b g : Nat} {aC : Nat → ClassId} {p : Program} {l : Launch} {e : Env} {R : Room} {s : State} {m : MethodId} {args : Array Value} {below : List Frame} {meth : Method} {c : Code} {H0 : Heap} {D : va_G} {cl : List vw_C} {nL n0 z0 : Nat} {Qm : State → Prop}
variable {pc : Nat} {k : mmKont} {cc : ByteArray} {X : Nat → mmKont}
theorem mm_lt32 {x y : Int} {n : Int} (hx : mmOk n (1, x)) (hy : mmOk n (1, y)) : (Int32.ofInt x < Int32.ofInt y) ↔ x < y := by
  rw [Int32.lt_iff_toInt_lt, mm_t32 hx.1 hx.2, mm_t32 hy.1 hy.2]
theorem mm_le32 {x y : Int} {n : Int} (hx : mmOk n (1, x)) (hy : mmOk n (1, y)) : (Int32.ofInt x ≤ Int32.ofInt y) ↔ x ≤ y := by
  rw [Int32.le_iff_toInt_le, mm_t32 hx.1 hx.2, mm_t32 hy.1 hy.2]
theorem mm_eq32 {x y : Int} {n : Int} (hx : mmOk n (1, x)) (hy : mmOk n (1, y)) : (Int32.ofInt x = Int32.ofInt y) ↔ x = y := by
  rw [← Int32.toInt_inj, mm_t32 hx.1 hx.2, mm_t32 hy.1 hy.2]
theorem mm_ok0 {n : Int} : mmOk n (1, 0) := ⟨by show (-2147483648 : Int) ≤ 0; omega, by show (0 : Int) < 2147483648; omega⟩
theorem ks_icmp (hx : p.tables.exec = Jvm.exec) (hb : c.code = cc) {cd bl : Nat} {off : Int} {tgt : Nat} (ht : (pc : Int) + off = (tgt : Int))
    (hd : (cd = 0 ∧ decode cc pc = .ok (.if_icmp .eq off, 3)) ∨ (cd = 1 ∧ decode cc pc = .ok (.if_icmp .ne off, 3)) ∨ (cd = 2 ∧ decode cc pc = .ok (.if_icmp .lt off, 3)) ∨ (cd = 3 ∧ decode cc pc = .ok (.if_icmp .ge off, 3)) ∨ (cd = 4 ∧ decode cc pc = .ok (.if_icmp .gt off, 3)) ∨ (cd = 5 ∧ decode cc pc = .ok (.if_icmp .le off, 3)))
    (hk : mmKS sh tg B b g aC p l e R s m args below meth c H0 D cl nL n0 z0 Qm (pc + 3) k) (hX : mmKS sh tg B b g aC p l e R s m args below meth c H0 D cl nL n0 z0 Qm tgt (X bl)) : mmKS sh tg B b g aC p l e R s m args below meth c H0 D cl nL n0 z0 Qm pc (oIcmp X cd bl k) := by
  intro ls st h H locs lsA hp hA
  match st, hp, hA with
  | ⟨t1, y⟩ :: ⟨t2, x⟩ :: r, hp, hA =>
    have hs := hA.2.2.2.1
    obtain ⟨htg, hp1, hp2⟩ := mmG_iff.mp hp
    simp only [Bool.and_eq_true] at htg
    have e1 : t1 = 1 := mm_beq htg.1
    have e2 : t2 = 1 := mm_beq htg.2
    subst e1; subst e2
    have hy := mm_head hs
    have hz := mm_head (mm_tail hs)
    have hA2 := hA.stk (mm_tail (mm_tail hs))
    rcases hd with ⟨rfl, hd⟩ | ⟨rfl, hd⟩ | ⟨rfl, hd⟩ | ⟨rfl, hd⟩ | ⟨rfl, hd⟩ | ⟨rfl, hd⟩
    · exact lv_icmp_eq hx hb hd ht (fun q => hX ls r h H locs lsA (hp1 ((mm_eq32 hz hy).mp q)) hA2) (fun q => hk ls r h H locs lsA (hp2 (fun z => q ((mm_eq32 hz hy).mpr z))) hA2)
    · exact lv_icmp_ne hx hb hd ht (fun q => hX ls r h H locs lsA (hp1 (fun z => q ((mm_eq32 hz hy).mpr z))) hA2) (fun q => hk ls r h H locs lsA (hp2 (fun z => z ((mm_eq32 hz hy).mp q))) hA2)
    · exact lv_icmp_lt hx hb hd ht (fun q => hX ls r h H locs lsA (hp1 ((mm_lt32 hz hy).mp q)) hA2) (fun q => hk ls r h H locs lsA (hp2 (fun z => q ((mm_lt32 hz hy).mpr z))) hA2)
    · exact lv_icmp_ge hx hb hd ht (fun q => hX ls r h H locs lsA (hp1 ((mm_le32 hy hz).mp q)) hA2) (fun q => hk ls r h H locs lsA (hp2 (fun z => q ((mm_le32 hy hz).mpr z))) hA2)
    · exact lv_icmp_gt hx hb hd ht (fun q => hX ls r h H locs lsA (hp1 ((mm_lt32 hy hz).mp q)) hA2) (fun q => hk ls r h H locs lsA (hp2 (fun z => q ((mm_lt32 hy hz).mpr z))) hA2)
    · exact lv_icmp_le hx hb hd ht (fun q => hX ls r h H locs lsA (hp1 ((mm_le32 hz hy).mp q)) hA2) (fun q => hk ls r h H locs lsA (hp2 (fun z => q ((mm_le32 hz hy).mpr z))) hA2)
theorem ks_if (hx : p.tables.exec = Jvm.exec) (hb : c.code = cc) {cd bl : Nat} {off : Int} {tgt : Nat} (ht : (pc : Int) + off = (tgt : Int))
    (hd : (cd = 0 ∧ decode cc pc = .ok (.ifCond .eq off, 3)) ∨ (cd = 1 ∧ decode cc pc = .ok (.ifCond .ne off, 3)) ∨ (cd = 2 ∧ decode cc pc = .ok (.ifCond .lt off, 3)) ∨ (cd = 3 ∧ decode cc pc = .ok (.ifCond .ge off, 3)) ∨ (cd = 4 ∧ decode cc pc = .ok (.ifCond .gt off, 3)) ∨ (cd = 5 ∧ decode cc pc = .ok (.ifCond .le off, 3)))
    (hk : mmKS sh tg B b g aC p l e R s m args below meth c H0 D cl nL n0 z0 Qm (pc + 3) k) (hX : mmKS sh tg B b g aC p l e R s m args below meth c H0 D cl nL n0 z0 Qm tgt (X bl)) : mmKS sh tg B b g aC p l e R s m args below meth c H0 D cl nL n0 z0 Qm pc (oIf X cd bl k) := by
  intro ls st h H locs lsA hp hA
  match st, hp, hA with
  | ⟨t2, x⟩ :: r, hp, hA =>
    have hs := hA.2.2.2.1
    obtain ⟨htg, hp1, hp2⟩ := mmG_iff.mp hp
    have e2 : t2 = 1 := mm_beq htg
    subst e2
    have hz := mm_head hs
    have hy : mmOk (h 0 0) (1, 0) := mm_ok0
    have hA2 := hA.stk (mm_tail hs)
    have e0 : (0 : Int32) = Int32.ofInt 0 := rfl
    rcases hd with ⟨rfl, hd⟩ | ⟨rfl, hd⟩ | ⟨rfl, hd⟩ | ⟨rfl, hd⟩ | ⟨rfl, hd⟩ | ⟨rfl, hd⟩
    · exact lv_if_eq hx hb hd ht (fun q => hX ls r h H locs lsA (hp1 ((mm_eq32 hz hy).mp q)) hA2) (fun q => hk ls r h H locs lsA (hp2 (fun z => q ((mm_eq32 hz hy).mpr z))) hA2)
    · exact lv_if_ne hx hb hd ht (fun q => hX ls r h H locs lsA (hp1 (fun z => q ((mm_eq32 hz hy).mpr z))) hA2) (fun q => hk ls r h H locs lsA (hp2 (fun z => z ((mm_eq32 hz hy).mp q))) hA2)
    · exact lv_if_lt hx hb hd ht (fun q => hX ls r h H locs lsA (hp1 ((mm_lt32 hz hy).mp q)) hA2) (fun q => hk ls r h H locs lsA (hp2 (fun z => q ((mm_lt32 hz hy).mpr z))) hA2)
    · exact lv_if_ge hx hb hd ht (fun q => hX ls r h H locs lsA (hp1 ((mm_le32 hy hz).mp q)) hA2) (fun q => hk ls r h H locs lsA (hp2 (fun z => q ((mm_le32 hy hz).mpr z))) hA2)
    · exact lv_if_gt hx hb hd ht (fun q => hX ls r h H locs lsA (hp1 ((mm_lt32 hy hz).mp q)) hA2) (fun q => hk ls r h H locs lsA (hp2 (fun z => q ((mm_lt32 hy hz).mpr z))) hA2)
    · exact lv_if_le hx hb hd ht (fun q => hX ls r h H locs lsA (hp1 ((mm_le32 hz hy).mp q)) hA2) (fun q => hk ls r h H locs lsA (hp2 (fun z => q ((mm_le32 hz hy).mpr z))) hA2)
theorem ks_goto (hx : p.tables.exec = Jvm.exec) (hb : c.code = cc) {off : Int} {tgt : Nat} (ht : (pc : Int) + off = (tgt : Int)) (hd : decode cc pc = .ok (.goto off, 3)) (hk : mmKS sh tg B b g aC p l e R s m args below meth c H0 D cl nL n0 z0 Qm tgt k) : mmKS sh tg B b g aC p l e R s m args below meth c H0 D cl nL n0 z0 Qm pc k := by
  intro ls st h H locs lsA hp hA
  exact lv_goto hx hb hd ht (hk ls st h H locs lsA hp hA)
theorem mm_tsw {x : Int} {F : Nat → Prop} : ∀ (ts : List Int) (lo : Int), mmTsw x lo ts F → lo ≤ x → x < lo + (ts.length : Int) → ∃ t, ts[(x - lo).toNat]? = some t ∧ F t.toNat
  | [], lo, _, h1, h2 => by simp at h2; omega
  | t :: ts, lo, h, h1, h2 => by
    by_cases e : x = lo
    · subst e
      exact ⟨t, by simp, h.1 rfl⟩
    · obtain ⟨t', a1, a2⟩ := mm_tsw ts (lo + 1) h.2 (by omega) (by simp at h2; omega)
      refine ⟨t', ?_, a2⟩
      have : (x - lo).toNat = (x - (lo + 1)).toNat + 1 := by omega
      rw [this, List.getElem?_cons_succ]
      exact a1
theorem ks_tsw (hx : p.tables.exec = Jvm.exec) (hb : c.code = cc) {d lo hi : Int} {offs : Array Int} {len : Nat} {dt : Int} {ts : List Int} {pcs : Nat → Nat} (hd : decode cc pc = .ok (.tableswitch d lo hi offs, len)) (hn : lo + (ts.length : Int) = hi + 1)
    (h1 : (pc : Int) + d = (pcs dt.toNat : Nat)) (h2 : ∀ (j : Nat) (t : Int), ts[j]? = some t → ∃ off, offs[j]? = some off ∧ (pc : Int) + off = (pcs t.toNat : Nat)) (hX : ∀ bl : Nat, mmKS sh tg B b g aC p l e R s m args below meth c H0 D cl nL n0 z0 Qm (pcs bl) (X bl)) : mmKS sh tg B b g aC p l e R s m args below meth c H0 D cl nL n0 z0 Qm pc (oTsw X lo (dt :: ts)) := by
  intro ls st h H locs lsA hp hA
  match st, hp, hA with
  | ⟨t1, x⟩ :: r, hp, hA =>
    have hs := hA.2.2.2.1
    obtain ⟨htg, hp1, hp2⟩ := mmG_iff.mp hp
    have e2 : t1 = 1 := mm_beq htg
    subst e2
    have hz := mm_head hs
    have hA2 := hA.stk (mm_tail hs)
    have ex : (Int32.ofInt x).toInt = x := mm_t32 hz.1 hz.2
    simp only [] at hp1 hp2
    by_cases q : x < lo ∨ hi < x
    · refine lv_tableOut hx hb hd (by rw [ex]; exact q) h1 (hX _ ls r h H locs lsA (hp2 ?_) hA2)
      rcases q with q | q
      · exact Or.inl q
      · exact Or.inr (by omega)
    · obtain ⟨t, a1, a2⟩ := mm_tsw ts lo hp1 (by omega) (by omega)
      obtain ⟨off, b1, b2⟩ := h2 _ _ a1
      exact lv_tableIn hx hb hd (by rw [ex]; omega) (by rw [ex]; omega) (by rw [ex]; exact b1) b2 (hX _ ls r h H locs lsA a2 hA2)
theorem mm_lsw {x : Int} {F : Nat → Prop} {Dp : Prop} {pc : Nat} {pcs : Nat → Nat} {d : Int} {G : Int → Prop} (hF : ∀ t : Nat, F t → ∀ off : Int, (pc : Int) + off = (pcs t : Nat) → G off) (hD : Dp → G d) :
    ∀ (ps : List (Int × Int)) (ts : List Int), mmLsw x ts F Dp → ts.length = 2 * ps.length → (∀ (j : Nat) (q : Int × Int), ps[j]? = some q → ts[2 * j]? = some q.1 ∧ ∃ t, ts[2 * j + 1]? = some t ∧ (pc : Int) + q.2 = (pcs t.toNat : Nat)) → G (Op.lookupswitch.offset ps d x)
  | [], [], h, _, _ => by
    rw [show Op.lookupswitch.offset [] d x = d from rfl]
    exact hD h
  | [], _ :: _, _, hl, _ => by simp at hl
  | q :: ps, [], _, hl, _ => by simp at hl
  | q :: ps, [_], _, hl, _ => by simp at hl; omega
  | q :: ps, a :: t :: ts, h, hl, hq => by
    obtain ⟨e1, t', e2, e3⟩ := hq 0 q rfl
    simp at e1 e2
    subst e1; subst e2
    rw [Op.lookupswitch.offset_cons]
    by_cases e : x = q.1
    · have := hF _ (h.1 (by rw [e])) q.2 e3
      simp [e]
      exact this
    · have := mm_lsw hF hD ps ts (h.2 (fun z => e z)) (by simp at hl ⊢; omega) (fun j w hj => by
        obtain ⟨f1, t2, f2, f3⟩ := hq (j + 1) w (by simpa using hj)
        have g1 : 2 * (j + 1) = 2 * j + 1 + 1 := by omega
        rw [g1] at f1 f2
        exact ⟨by simpa using f1, t2, by simpa using f2, f3⟩)
      first
        | (rw [if_neg (fun z => e z)]; exact this)
        | (rw [if_neg (fun z => e z.symm)]; exact this)
theorem ks_lsw (hx : p.tables.exec = Jvm.exec) (hb : c.code = cc) {d : Int} {ps : Array (Int × Int)} {len : Nat} {dt : Int} {ts : List Int} {pcs : Nat → Nat} (hd : decode cc pc = .ok (.lookupswitch d ps, len)) (hsorted : (ps.toList.zip (ps.toList.drop 1)).all (fun (a, next) => a.1 < next.1) = true)
    (h1 : (pc : Int) + d = (pcs dt.toNat : Nat)) (hl : ts.length = 2 * ps.toList.length) (h2 : ∀ (j : Nat) (q : Int × Int), ps.toList[j]? = some q → ts[2 * j]? = some q.1 ∧ ∃ t, ts[2 * j + 1]? = some t ∧ (pc : Int) + q.2 = (pcs t.toNat : Nat)) (hX : ∀ bl : Nat, mmKS sh tg B b g aC p l e R s m args below meth c H0 D cl nL n0 z0 Qm (pcs bl) (X bl)) : mmKS sh tg B b g aC p l e R s m args below meth c H0 D cl nL n0 z0 Qm pc (oLsw X (dt :: ts)) := by
  intro ls st h H locs lsA hp hA
  match st, hp, hA with
  | ⟨t1, x⟩ :: r, hp, hA =>
    have hs := hA.2.2.2.1
    obtain ⟨htg, hp1⟩ := mmG_iff.mp hp
    have e2 : t1 = 1 := mm_beq htg
    subst e2
    have hz := mm_head hs
    have hA2 := hA.stk (mm_tail hs)
    have ex : (Int32.ofInt x).toInt = x := mm_t32 hz.1 hz.2
    have key := mm_lsw (G := fun off => ∃ tgt : Nat, (pc : Int) + off = (tgt : Int) ∧ W p l e R s m args below meth c H locs ((h 0 0).toNat - n0) ((h 0 1).toNat - z0) Qm (F0 m tgt lsA (r.map (mmVal B b g)))) (pcs := pcs) (pc := pc) (d := d)
      (fun t ht off ho => ⟨_, ho, hX _ ls r h H locs lsA ht hA2⟩) (fun hd => ⟨_, h1, hX _ ls r h H locs lsA hd hA2⟩) ps.toList ts hp1 hl h2
    obtain ⟨tgt, k1, k2⟩ := key
    exact lv_lookup hx hb hd hsorted (by rw [ex]) k1 k2
end MR2
end
section
/-! ===== mm: fields and rows of numbers ===== -/
section MR3
variable {sh : Int → Nat × Nat} {tg : Nat → Nat → Nat} {B b g : Nat} {aC : Nat → ClassId} {p : Program} {l : Launch} {e : Env} {R : Room} {s : State} {m : MethodId} {args : Array Value} {below : List Frame} {meth : Method} {c : Code} {H0 : Heap} {D : va_G} {cl : List vw_C} {nL n0 z0 : Nat} {Qm : State → Prop}
variable {pc : Nat} {k : mmKont} {cc : ByteArray} {wn : Int → Bool}
theorem mmWH.put {h : mmH} {H H' : Heap} {locs : List Loc} {x v : Int} {i j : Nat} (hW : mmWH sh tg B b g aC D cl H0 h H locs) (h1 : 1 ≤ x) (h2 : x < h 0 0) (z : H'.size = H.size) (oq : ∀ q : Nat, q ≠ B + x.toNat → H'[q]? = H[q]?)
    (hat : va_at D cl (B + x.toNat, mmE sh tg B b g aC x (mmS h x i v x)) H') (hv : mmOk (h 0 0) (mmTg sh tg x i, v)) : mmWH sh tg B b g aC D cl H0 (mmS h x i v) H' (locs ++ [⟨B + x.toNat, j⟩]) := by
  obtain ⟨w1, w2, w3, w4⟩ := hW
  have e0 : mmS h x i v 0 0 = h 0 0 := mmS_cell (by omega)
  refine ⟨?_, by rw [z, w2, e0], w3.put z oq ?_, mmOkH_put sh tg w4 h1 hv⟩
  · rw [← mmWs_put sh tg B b g aC h1 h2 rfl rfl]
    exact w1.set (mmWs_D sh tg B b g aC h) (mmWs_get sh tg B b g aC h1 h2) hat oq
  · show B + 1 ≤ B + x.toNat
    omega
theorem mmIn.put {ls st st' : List mmV} {h : mmH} {H H' : Heap} {locs : List Loc} {lsA : Array Slot} {x v : Int} {i j : Nat} (hA : mmIn sh tg B b g aC R H0 D cl nL n0 z0 ls st h H locs lsA) (h1 : 1 ≤ x) (h2 : x < h 0 0) (z : H'.size = H.size) (oq : ∀ q : Nat, q ≠ B + x.toNat → H'[q]? = H[q]?)
    (hat : va_at D cl (B + x.toNat, mmE sh tg B b g aC x (mmS h x i v x)) H') (hv : mmOk (h 0 0) (mmTg sh tg x i, v)) (hs : ∀ w ∈ st', mmOk (h 0 0) w) : mmIn sh tg B b g aC R H0 D cl nL n0 z0 ls st' (mmS h x i v) H' (locs ++ [⟨B + x.toNat, j⟩]) lsA := by
  have e0 : mmS h x i v 0 0 = h 0 0 := mmS_cell (by omega)
  have e1 : mmS h x i v 0 1 = h 0 1 := mmS_cell (by omega)
  exact ⟨hA.1, hA.2.1, by rw [e0]; exact hA.2.2.1, by rw [e0]; exact hs, hA.2.2.2.2.1.put h1 h2 z oq hat hv, by rw [e0]; exact hA.2.2.2.2.2.1, by rw [e1]; exact hA.2.2.2.2.2.2.1, by rw [e0]; exact hA.2.2.2.2.2.2.2.1, by rw [e1]; exact hA.2.2.2.2.2.2.2.2⟩
theorem mmIn.wh {ls st : List mmV} {h : mmH} {H : Heap} {locs : List Loc} {lsA : Array Slot} (hA : mmIn sh tg B b g aC R H0 D cl nL n0 z0 ls st h H locs lsA) : mmWH sh tg B b g aC D cl H0 h H locs := hA.2.2.2.2.1
theorem mmIn.okS {ls st : List mmV} {h : mmH} {H : Heap} {locs : List Loc} {lsA : Array Slot} (hA : mmIn sh tg B b g aC R H0 D cl nL n0 z0 ls st h H locs lsA) : ∀ v ∈ st, mmOk (h 0 0) v := hA.2.2.2.1
/-- a cell that is there -/
theorem mm_pos {n x : Int} {r : Nat} (hs0 : (sh 0).1 = 99) (ho : mmOk n (3, x)) (hr : (sh x).1 = r) (h9 : r ≠ 99) : 1 ≤ x ∧ x < n ∧ mmVal B b g (3, x) = .ref (B + x.toNat) := by
  have h1 : 0 ≤ x := ho.1
  have h2 : x < n := ho.2
  have h0 : x ≠ 0 := fun q => by rw [q, hs0] at hr; exact h9 hr.symm
  refine ⟨by omega, h2, ?_⟩
  simp only [mmVal, h0, if_false]
theorem mmE_o {x : Int} {f : Int → Int} {ci N : Nat} (h1 : (sh x).1 = ci) (hci : ci < 99) (hN : (sh x).2 = N) : mmE sh tg B b g aC x f = .inr (ci, (List.range N).map (fun s : Nat => mmVal B b g (tg ci s, f s))) := by
  unfold mmE
  rw [if_pos (by omega), h1, hN]
theorem mmE_a {x : Int} {f : Int → Int} {kd : Nat} (h1 : (sh x).1 = 100 + kd) : mmE sh tg B b g aC x f = .inl (aC kd, (sh x).2, mmAr B kd f) := by
  unfold mmE
  rw [if_neg (by omega), h1]
  have : 100 + kd - 100 = kd := by omega
  rw [this]
theorem mmTg_o {x : Int} {i ci : Nat} (h1 : (sh x).1 = ci) (hci : ci < 99) : mmTg sh tg x i = tg ci i := by
  unfold mmTg
  rw [if_pos (by omega), h1]
theorem mmTg_a {x : Int} {i kd : Nat} (h1 : (sh x).1 = 100 + kd) : mmTg sh tg x i = mmEt kd := by
  unfold mmTg
  rw [if_neg (by omega), h1]
  have : 100 + kd - 100 = kd := by omega
  rw [this]
theorem ks_get (hx : p.tables.exec = Jvm.exec) (hb : c.code = cc) {own C : String} {T : u_T} {ci N f index : Nat} {Ts : List Cond} {tys : List (ClassId × FieldType)} (hts : ∀ w ∈ Ts, w.before args s = true) (hin : ∀ w ∈ u_ws C T N, w ∈ Ts) (hown : s.vm.findClass own = some m.cls) (hK : va_K D cl tys s)
    (hc : cl[ci]? = some (C, T, N)) (hci : ci < 99) (hsh : ∀ x, (sh x).1 = ci → (sh x).2 = N) (hs0 : (sh 0).1 = 99) (hf : f < N) (hlink : (Cond.fieldLink own index (T f).1 (T f).2.1 (T f).2.2.1).before args s = true) (hd : decode cc pc = .ok (.getfield index, 3))
    (hk : mmKS sh tg B b g aC p l e R s m args below meth c H0 D cl nL n0 z0 Qm (pc + 3) k) : mmKS sh tg B b g aC p l e R s m args below meth c H0 D cl nL n0 z0 Qm pc (oGet sh tg (fun _ _ => none) ci f k) := by
  intro ls st h H locs lsA hp hA
  match st, hp, hA with
  | ⟨t, x⟩ :: r, hp, hA =>
    obtain ⟨ht, hp⟩ := mmG_iff.mp hp
    obtain ⟨hg1, hp⟩ := mmG_iff.mp hp
    have h1 : (sh x).1 = ci := mm_beq hg1
    have e1 : t = 3 := mm_beq ht
    subst e1
    simp only [] at h1 hp
    have hs := hA.okS
    obtain ⟨g1, g2, g3⟩ := mm_pos (B := B) (b := b) (g := g) hs0 (mm_head hs) h1 (by omega)
    have hW := hA.wh
    have he := mmWs_get sh tg B b g aC g1 g2
    rw [mmE_o h1 hci (hsh x h1)] at he
    have hok : mmOk (h 0 0) (tg ci f, h x f) := by
      have := (hW.2.2.2.2.2 x g1 g2).2 f (by rw [hsh x h1]; exact hf)
      rw [mmTg_o h1 hci] at this
      exact this
    rw [List.map_cons, g3]
    exact va_get hx hb hts hin hown hK hW.1 (x.toNat - 1) he hc f hf hlink (fun _ q => q) (by simp [hf]) hd (hk ls _ h H locs lsA hp (hA.stk (mm_cons hok (mm_tail hs))))
theorem mm_setR {N f : Nat} {V : Nat → Value} {w : Value} {V' : Nat → Value} (he : V' f = w) (hne : ∀ j, j ≠ f → V' j = V j) : ((List.range N).map V).set f w = (List.range N).map V' := by
  apply List.ext_getElem?
  intro i
  by_cases hi : i = f
  · subst hi
    by_cases hl : i < N
    · rw [List.getElem?_set_self (by simp [hl])]
      simp [hl, he]
    · rw [List.getElem?_eq_none (by simp; omega), List.getElem?_eq_none (by simp; omega)]
  · rw [List.getElem?_set_ne (Ne.symm hi)]
    by_cases hl : i < N
    · simp [hl, hne i hi]
    · rw [List.getElem?_eq_none (by simp; omega), List.getElem?_eq_none (by simp; omega)]
/-- what may be stored in a field of a type -/
def mmTy : FieldType → Nat
  | .long => 2
  | .object _ => 3
  | .array _ => 3
  | .int => 1
  | _ => 0
theorem mm_fit {ty : FieldType} {n x : Int} (h : mmOk n (mmTy ty, x)) (h0 : mmTy ty ≠ 0) : narrow ty (mmVal B b g (mmTy ty, x)) = mmVal B b g (mmTy ty, x) ∧ fits ty (mmVal B b g (mmTy ty, x)) = true := by
  cases ty with
  | int => exact ⟨rfl, rfl⟩
  | long => exact ⟨rfl, rfl⟩
  | object C => by_cases e : x = 0 <;> simp [mmVal, mmTy, e, narrow, fits]
  | array t => by_cases e : x = 0 <;> simp [mmVal, mmTy, e, narrow, fits]
  | _ => exact absurd rfl h0
theorem ks_put (hx : p.tables.exec = Jvm.exec) (hb : c.code = cc) {own C : String} {T : u_T} {ci N f index : Nat} {Ts : List Cond} {tys : List (ClassId × FieldType)} (hts : ∀ w ∈ Ts, w.before args s = true) (hin : ∀ w ∈ u_ws C T N, w ∈ Ts) (ty : Nat → FieldType) (hty : ∀ k, k < N → parseFieldDescriptor (T k).2.2.1 = some (ty k)) (hnm : ∀ a, a < N → ∀ b, b < N → a ≠ b → (T a).2.1 ≠ (T b).2.1) (hown : s.vm.findClass own = some m.cls) (hK : va_K D cl tys s)
    (hc : cl[ci]? = some (C, T, N)) (hci : ci < 99) (hsh : ∀ x, (sh x).1 = ci → (sh x).2 = N) (hs0 : (sh 0).1 = 99) (hf : f < N) (htg : tg ci f = mmTy (ty f)) (ht0 : tg ci f ≠ 0) (hlink : (Cond.fieldLink own index (T f).1 (T f).2.1 (T f).2.2.1).before args s = true) (hfin : (T f).2.2.2 = true → meth.name = "<init>" ∧ (T f).1 = own) (hd : decode cc pc = .ok (.putfield index, 3))
    (hk : mmKS sh tg B b g aC p l e R s m args below meth c H0 D cl nL n0 z0 Qm (pc + 3) k) : mmKS sh tg B b g aC p l e R s m args below meth c H0 D cl nL n0 z0 Qm pc (oPut sh tg (fun _ _ => none) wn ci f k) := by
  intro ls st h H locs lsA hp hA
  match st, hp, hA with
  | ⟨tw, w⟩ :: ⟨t, x⟩ :: r, hp, hA =>
    obtain ⟨ht, hp⟩ := mmG_iff.mp hp
    obtain ⟨hg1, hp⟩ := mmG_iff.mp hp
    simp only [Bool.and_eq_true] at hg1
    have h1 : (sh x).1 = ci := mm_beq hg1.1
    simp only [Bool.and_eq_true] at ht
    have e1 : t = 3 := mm_beq ht.2
    have e2 : tw = tg ci f := mm_beq ht.1
    subst e1; subst e2
    simp only [] at h1 hp
    have hs := hA.okS
    obtain ⟨g1, g2, g3⟩ := mm_pos (B := B) (b := b) (g := g) hs0 (mm_head (mm_tail hs)) h1 (by omega)
    have hW := hA.wh
    have he := mmWs_get sh tg B b g aC g1 g2
    rw [mmE_o h1 hci (hsh x h1)] at he
    have hwok : mmOk (h 0 0) (tg ci f, w) := mm_head hs
    obtain ⟨n1, n2⟩ := mm_fit (B := B) (b := b) (g := g) (ty := ty f) (by rw [← htg]; exact hwok) (by rw [← htg]; exact ht0)
    rw [← htg] at n1 n2
    rw [List.map_cons, List.map_cons, g3]
    have hap := va_apart (own := own) hts hin ty hty hnm hK hc
    obtain ⟨r2, h2, cell, q1, q2, q3, q4⟩ := hW.1 _ _ he
    have hr : r2 = (C, T, N) := Option.some.inj (h2.symm.trans hc)
    subst hr
    obtain ⟨hS, hfc, kC, hkC, hkind⟩ := hK.1 ci _ hc
    obtain ⟨cf, kf, fi, fd, hi, hsl⟩ := hS f hf
    have hlay := hts _ (hin _ (u_in_lay hf))
    unfold u_lay at hlay
    have hst := (u_facts hfc hkC (u_lays hts hin hf) hi).1
    have key : ∀ H' : Heap, H'[B + x.toNat]? = some (cell.setSlot fd.slot (mmVal B b g (tg ci f, w))) → H'.size = H.size → (∀ q, q ≠ B + x.toNat → H'[q]? = H[q]?) → W p l e R s m args below meth c H' (locs ++ [⟨B + x.toNat, fd.slot⟩]) ((h 0 0).toNat - n0) ((h 0 1).toNat - z0) Qm (F0 m (pc + 3) lsA (r.map (mmVal B b g))) := by
      intro H' f1 f2 f3
      have hat : va_at D cl (B + x.toNat, mmE sh tg B b g aC x (mmS h x f w x)) H' := by
        rw [mmE_o h1 hci (hsh x h1)]
        rw [hsl] at f1
        refine ⟨_, hc, ?_⟩
        have hl : f < ((List.range N).map (fun s : Nat => mmVal B b g (tg ci s, h x s))).length := by simp [hf]
        have hset : ((List.range N).map (fun s : Nat => mmVal B b g (tg ci s, h x s))).set f (mmVal B b g (tg ci f, w)) = (List.range N).map (fun s : Nat => mmVal B b g (tg ci s, mmS h x f w x s)) := by
          refine mm_setR ?_ (fun j hj => ?_)
          · rw [mmS_self]
          · rw [mmS_slot, if_neg (by omega)]
        rw [← hset]
        exact t_OB.to (V := updV (vp_V ((List.range N).map (fun s : Nat => mmVal B b g (tg ci s, h x s)))) f (mmVal B b g (tg ci f, w))) ⟨_, f1, q2, q3, t_set q4 hap hf _⟩ (fun j _ => vp_updV_set hl _ j)
      have e0 : mmS h x f w 0 0 = h 0 0 := mmS_cell (by omega)
      have e1 : mmS h x f w 0 1 = h 0 1 := mmS_cell (by omega)
      have := hk ls r _ H' _ lsA hp (hA.put (st' := r) (j := fd.slot) g1 g2 f2 f3 hat (by rw [mmTg_o h1 hci]; exact hwok) (mm_tail (mm_tail hs)))
      rw [e0, e1] at this
      exact this
    by_cases hfn : (T f).2.2.2 = true
    · rw [if_pos hfn] at hlay
      obtain ⟨hin2, hdecl⟩ := hfin hfn
      have hcf : m.cls = cf := by
        obtain ⟨_, _, c', _, _, _, -, -, hf', -, -, -, hown2, -⟩ := Cond.laysFinal_spec hlay
        have e1 : c' = cf := by have := hi.symm.trans hf'; simp at this; exact this.1.symm
        rw [hdecl] at hown2
        rw [← e1]; exact Option.some.inj (hown.symm.trans hown2)
      have h6 := u_fits hfc hkC hkind (Or.inr hlay) hi (hty f hf) n1 n2
      exact W.putFinK hx hb hown hlink hi hst hcf hin2 (by rw [q2]; exact h6) q1 q3 (by rw [hsl]; exact k2_hasslot (q4 f hf)) rfl rfl hd key
    · rw [if_neg hfn] at hlay
      have h6 := u_store hfc hkC hkind hlay hi (hty f hf) n1 n2
      exact W.putK hx hb (f := fd) ⟨hown, hlink, ⟨_, _, _, hi⟩, hst⟩ (by rw [q2]; exact h6) q1 q3 (by rw [hsl]; exact k2_hasslot (q4 f hf)) rfl rfl hd key
end MR3
end
section
/-! ===== mm: rows of numbers ===== -/
section MR4
variable {sh : Int → Nat × Nat} {tg : Nat → Nat → Nat} {B b g : Nat} {aC : Nat → ClassId} {p : Program} {l : Launch} {e : Env} {R : Room} {s : State} {m : MethodId} {args : Array Value} {below : List Frame} {meth : Method} {c : Code} {H0 : Heap} {D : va_G} {cl : List vw_C} {nL n0 z0 : Nat} {Qm : State → Prop}
variable {pc : Nat} {k : mmKont} {cc : ByteArray} {wn : Int → Bool}
def mmKt : Nat → FieldType
  | 0 => .int
  | 1 => .long
  | 2 => .char
  | 3 => .boolean
  | 4 => .array .int
  | _ => .object "TileHeel$Roofs"
theorem mmAr_cell (cA : ClassId) (n kd : Nat) (f : Int → Int) : vp_cell cA (n, mmAr B kd f) = arrV cA n (fun j : Nat => mmVal B b g (mmEt kd, f j)) := by
  match kd with
  | 0 => rfl
  | 1 => rfl
  | 2 => rfl
  | 3 => rfl
  | 4 =>
    show arrV cA n (fun j : Nat => va_rf (if f j = 0 then none else some (B + (f j).toNat))) = _
    congr 1
    funext j
    by_cases e : f j = 0 <;> simp [va_rf, mmVal, mmEt, e]
  | 5 =>
    show arrV cA n (fun j : Nat => va_rf (if f j = 0 then none else some (B + (f j).toNat))) = _
    congr 1
    funext j
    by_cases e : f j = 0 <;> simp [va_rf, mmVal, mmEt, e]
  | n + 6 => rfl
/-- the row of numbers that is at a cell -/
theorem mm_arr {h : mmH} {H : Heap} {locs : List Loc} {x : Int} {kd : Nat} (hW : mmWH sh tg B b g aC D cl H0 h H locs) (g1 : 1 ≤ x) (g2 : x < h 0 0) (h1 : (sh x).1 = 100 + kd) : H[B + x.toNat]? = some (arrV (aC kd) (sh x).2 (fun j : Nat => mmVal B b g (mmEt kd, h x j))) := by
  have he := mmWs_get sh tg B b g aC g1 g2
  rw [mmE_a h1] at he
  have := hW.1 _ _ he
  rw [← mmAr_cell]
  exact this
theorem ks_ald (hx : p.tables.exec = Jvm.exec) (hb : c.code = cc) {kd : Nat} {tys : List (ClassId × FieldType)} (hK : va_K D cl tys s) (hs0 : (sh 0).1 = 99) (hty : tys[kd]? = some (aC kd, mmKt kd))
    (hd : (kd = 0 ∧ decode cc pc = .ok (.iaload, 1)) ∨ (kd = 1 ∧ decode cc pc = .ok (.laload, 1)) ∨ (kd = 2 ∧ decode cc pc = .ok (.caload, 1)) ∨ (kd = 3 ∧ decode cc pc = .ok (.baload, 1)) ∨ (kd = 4 ∧ decode cc pc = .ok (.aaload, 1)) ∨ (kd = 5 ∧ decode cc pc = .ok (.aaload, 1)))
    (hk : mmKS sh tg B b g aC p l e R s m args below meth c H0 D cl nL n0 z0 Qm (pc + 1) k) : mmKS sh tg B b g aC p l e R s m args below meth c H0 D cl nL n0 z0 Qm pc (oAld sh (fun _ _ => none) kd k) := by
  intro ls st h H locs lsA hp hA
  match st, hp, hA with
  | ⟨ti, i⟩ :: ⟨t, x⟩ :: r, hp, hA =>
    obtain ⟨ht, hp⟩ := mmG_iff.mp hp
    obtain ⟨hg1, hp⟩ := mmG_iff.mp hp
    obtain ⟨⟨h2, h3⟩, hp⟩ := mmD_iff.mp hp
    have h1 : (sh x).1 = 100 + kd := mm_beq hg1
    simp only [Bool.and_eq_true] at ht
    have e1 : t = 3 := mm_beq ht.2
    have e2 : ti = 1 := mm_beq ht.1
    subst e1; subst e2
    simp only [] at h1 h2 h3 hp
    have hs := hA.okS
    obtain ⟨g1, g2, g3⟩ := mm_pos (B := B) (b := b) (g := g) hs0 (mm_head (mm_tail hs)) h1 (by omega)
    have hW := hA.wh
    obtain ⟨hlen, hcont⟩ := hW.2.2.2.2.2 x g1 g2
    have hcell := mm_arr hW g1 g2 h1
    have hok : mmOk (h 0 0) (mmEt kd, h x i) := by
      have := hcont i.toNat (by omega)
      rw [mmTg_a h1] at this
      have e : ((i.toNat : Nat) : Int) = i := by omega
      rw [e] at this
      exact this
    have hin : ¬ (Int32.ofInt i < 0 ∨ (arrV (aC kd) (sh x).2 (fun j : Nat => mmVal B b g (mmEt kd, h x j))).slots.size ≤ (Int32.ofInt i).toNatClampNeg) := by
      rw [arrV_size]
      exact mm_in h2 (by omega) hlen
    have hv : (arrV (aC kd) (sh x).2 (fun j : Nat => mmVal B b g (mmEt kd, h x j))).slots[(Int32.ofInt i).toNatClampNeg]? = some (mmVal B b g (mmEt kd, h x i)) := by
      rw [mm_cl h2 (by omega), arrV_read _ _ (by omega)]
      have e : ((i.toNat : Nat) : Int) = i := by omega
      rw [e]
    have hAr : ArrOfT s (aC kd) (mmKt kd) := (hK.2 kd _ hty).1
    have h4 := hk ls _ h H locs lsA hp (hA.stk (mm_cons hok (mm_tail (mm_tail hs))))
    rw [List.map_cons, List.map_cons, g3]
    rw [List.map_cons] at h4
    rcases hd with ⟨rfl, hd⟩ | ⟨rfl, hd⟩ | ⟨rfl, hd⟩ | ⟨rfl, hd⟩ | ⟨rfl, hd⟩ | ⟨rfl, hd⟩
    · exact W.iald hx hb hcell (hAr _ _) (fun q => by cases q) hin hv rfl rfl hd h4
    · exact W.lald hx hb hcell (hAr _ _) (fun q => by cases q) hin hv rfl rfl hd h4
    · exact W.cald hx hb hcell (hAr _ _) (fun q => by cases q) hin hv rfl rfl hd h4
    · exact W.zald hx hb hcell (hAr _ _) (fun q => by cases q) hin hv rfl rfl hd h4
    · exact W.aald hx hb hcell (hAr _ _) rfl (fun q => by cases q) hin hv rfl rfl hd h4
    · exact W.aald hx hb hcell (hAr _ _) rfl (fun q => by cases q) hin hv rfl rfl hd h4
theorem mm_nN {x : Int} (h : 0 ≤ x) : Int32.ofInt x = nI x.toNat := by
  have e : x = ((x.toNat : Nat) : Int) := by omega
  rw [e]
  exact Int32.ofInt_eq_ofNat
theorem ks_ast (hx : p.tables.exec = Jvm.exec) (hb : c.code = cc) {kd : Nat} {rT : u_T} {rN : Nat} {tys : List (ClassId × FieldType)} (hK : va_K D cl tys s) (hs0 : (sh 0).1 = 99) (hty : tys[kd]? = some (aC kd, mmKt kd))
    (hr4 : cl[4]? = some ("TileHeel$Roofs", rT, rN)) (hsh4 : ∀ x, (sh x).1 = 4 → (sh x).2 = rN)
    (hd : (kd = 0 ∧ decode cc pc = .ok (.iastore, 1)) ∨ (kd = 1 ∧ decode cc pc = .ok (.lastore, 1)) ∨ (kd = 2 ∧ decode cc pc = .ok (.castore, 1)) ∨ (kd = 3 ∧ decode cc pc = .ok (.bastore, 1)) ∨ (kd = 5 ∧ decode cc pc = .ok (.aastore, 1)))
    (hk : mmKS sh tg B b g aC p l e R s m args below meth c H0 D cl nL n0 z0 Qm (pc + 1) k) : mmKS sh tg B b g aC p l e R s m args below meth c H0 D cl nL n0 z0 Qm pc (oAst sh (fun _ _ => none) wn kd k) := by
  intro ls st h H locs lsA hp hA
  match st, hp, hA with
  | ⟨tv, v⟩ :: ⟨ti, i⟩ :: ⟨t, x⟩ :: r, hp, hA =>
    obtain ⟨ht, hp⟩ := mmG_iff.mp hp
    obtain ⟨hg1, hp⟩ := mmG_iff.mp hp
    obtain ⟨⟨h2, h3⟩, hp⟩ := mmD_iff.mp hp
    obtain ⟨hf, hp⟩ := mmG_iff.mp hp
    simp only [Bool.and_eq_true] at hg1
    have h1 : (sh x).1 = 100 + kd := mm_beq hg1.1
    simp only [Bool.and_eq_true] at ht
    have e1 : t = 3 := mm_beq ht.2.2
    have e2 : ti = 1 := mm_beq ht.2.1
    have e3 : tv = mmEt kd := mm_beq ht.1
    subst e1; subst e2; subst e3
    simp only [] at h1 h2 h3 hf hp
    have hs := hA.okS
    obtain ⟨g1, g2, g3⟩ := mm_pos (B := B) (b := b) (g := g) hs0 (mm_head (mm_tail (mm_tail hs))) h1 (by omega)
    have hW := hA.wh
    obtain ⟨hlen, hcont⟩ := hW.2.2.2.2.2 x g1 g2
    have hcell := mm_arr hW g1 g2 h1
    have hin : ¬ (Int32.ofInt i < 0 ∨ (arrV (aC kd) (sh x).2 (fun j : Nat => mmVal B b g (mmEt kd, h x j))).slots.size ≤ (Int32.ofInt i).toNatClampNeg) := by
      rw [arrV_size]
      exact mm_in h2 (by omega) hlen
    have hAr : ArrOfT s (aC kd) (mmKt kd) := (hK.2 kd _ hty).1
    have hvok : mmOk (h 0 0) (mmEt kd, v) := mm_head hs
    have ei : (Int32.ofInt i).toNatClampNeg = i.toNat := mm_cl h2 (by omega)
    have ez : ((i.toNat : Nat) : Int) = i := by omega
    have key : ∀ H' : Heap, H'[B + x.toNat]? = some ((arrV (aC kd) (sh x).2 (fun j : Nat => mmVal B b g (mmEt kd, h x j))).setSlot (Int32.ofInt i).toNatClampNeg (mmVal B b g (mmEt kd, v))) → H'.size = H.size → (∀ q, q ≠ B + x.toNat → H'[q]? = H[q]?) →
        W p l e R s m args below meth c H' (locs ++ [⟨B + x.toNat, (Int32.ofInt i).toNatClampNeg⟩]) ((h 0 0).toNat - n0) ((h 0 1).toNat - z0) Qm (F0 m (pc + 1) lsA (r.map (mmVal B b g))) := by
      intro H' f1 f2 f3
      have hat : va_at D cl (B + x.toNat, mmE sh tg B b g aC x (mmS h x i.toNat v x)) H' := by
        rw [mmE_a h1]
        show H'[B + x.toNat]? = some (vp_cell _ _)
        rw [mmAr_cell (b := b) (g := g), f1, arrV_store, ei]
        congr 2
        funext j
        unfold updV
        by_cases hj : j = i.toNat
        · rw [if_pos hj, hj, mmS_self]
        · rw [if_neg hj, mmS_slot, if_neg (by omega)]
      have e0 : mmS h x i v 0 0 = h 0 0 := mmS_cell (by omega)
      have e1 : mmS h x i v 0 1 = h 0 1 := mmS_cell (by omega)
      have hp2 := hA.put (st' := r) (j := (Int32.ofInt i).toNatClampNeg) (i := i.toNat) (v := v) g1 g2 f2 f3 hat (by rw [mmTg_a h1]; exact hvok) (mm_tail (mm_tail (mm_tail hs)))
      rw [ez] at hp2
      have := hk ls r _ H' _ lsA hp hp2
      rw [e0, e1] at this
      exact this
    rw [List.map_cons, List.map_cons, List.map_cons, g3]
    rcases hd with ⟨rfl, hd⟩ | ⟨rfl, hd⟩ | ⟨rfl, hd⟩ | ⟨rfl, hd⟩ | ⟨rfl, hd⟩
    · exact W.iast hx hb hcell (hAr _ _) (fun q => by cases q) hin rfl rfl hd key
    · exact W.last hx hb hcell (hAr _ _) (fun q => by cases q) hin rfl rfl hd key
    · refine W.cast hx hb hcell (hAr _ _) (fun q => by cases q) hin rfl rfl hd ?_
      obtain ⟨hf1, hf2⟩ := of_decide_eq_true (show decide (0 ≤ v ∧ v < 65536) = true from hf)
      have en : narrow .char (.int (Int32.ofInt v)) = .int (Int32.ofInt v) := by
        rw [mm_nN hf1]
        exact (pk_charN (by omega)).1
      rw [en]
      exact key
    · refine W.zast hx hb hcell (hAr _ _) (fun q => by cases q) hin rfl rfl hd ?_
      have en : narrow .boolean (.int (Int32.ofInt v)) = .int (Int32.ofInt v) := by
        rcases of_decide_eq_true (show decide (v = 0 ∨ v = 1) = true from hf) with hf | hf
        · have : v = 0 := hf
          subst this
          decide
        · have : v = 1 := hf
          subst this
          decide
      rw [en]
      exact key
    · have hf2 : (sh v).1 = 4 := mm_beq hf
      obtain ⟨v1, v2, v3⟩ := mm_pos (B := B) (b := b) (g := g) hs0 hvok hf2 (by omega)
      have hev := mmWs_get sh tg B b g aC v1 v2
      rw [mmE_o hf2 (by omega) (hsh4 v hf2)] at hev
      obtain ⟨r', hr', cellV, c1, c2, c3, -⟩ := hW.1 _ _ hev
      have hcls := (hK.1 4 _ hr4).2
      obtain ⟨kA, comp, k1, k2, k3, -⟩ := (hK.2 5 _ hty).2
      have hcomp : comp = D.1 4 := Option.some.inj (k3.symm.trans hcls.1)
      subst hcomp
      obtain ⟨kC, hkC, -⟩ := hcls.2
      have v3' : mmVal B b g (mmEt 5, v) = .ref (B + v.toNat) := v3
      rw [v3'] at key ⊢
      refine W.aast hx hb hcell (fun q h => by cases h) (fun h => by cases h) k1 k2 rfl hkC ⟨fun q => hin (Or.inl q), ?_⟩ c1 (fun q h => by rw [c3] at h; cases h) (by rw [c2]; exact hkC) (by rw [c2]; exact va_assign hcls) rfl rfl hd key
      exact Nat.not_le.mp (fun q => hin (Or.inr q))
theorem ks_len (hx : p.tables.exec = Jvm.exec) (hb : c.code = cc) {tys : List (ClassId × FieldType)} (hK : va_K D cl tys s) (hs0 : (sh 0).1 = 99) (hty : ∀ x, 100 ≤ (sh x).1 → ∃ ty, tys[(sh x).1 - 100]? = some (aC ((sh x).1 - 100), ty)) (hd : decode cc pc = .ok (.arraylength, 1))
    (hk : mmKS sh tg B b g aC p l e R s m args below meth c H0 D cl nL n0 z0 Qm (pc + 1) k) : mmKS sh tg B b g aC p l e R s m args below meth c H0 D cl nL n0 z0 Qm pc (oLen sh k) := by
  intro ls st h H locs lsA hp hA
  match st, hp, hA with
  | ⟨t, x⟩ :: r, hp, hA =>
    obtain ⟨ht, hp⟩ := mmG_iff.mp hp
    obtain ⟨hg1, hp⟩ := mmG_iff.mp hp
    have h1 : 100 ≤ (sh x).1 := mm_ble hg1
    have e1 : t = 3 := mm_beq ht
    subst e1
    simp only [] at h1 hp
    have hs := hA.okS
    obtain ⟨g1, g2, g3⟩ := mm_pos (B := B) (b := b) (g := g) hs0 (mm_head hs) rfl (by omega)
    have hW := hA.wh
    obtain ⟨hlen, -⟩ := hW.2.2.2.2.2 x g1 g2
    have hcell := mm_arr (kd := (sh x).1 - 100) hW g1 g2 (by omega)
    obtain ⟨ty, hty⟩ := hty x h1
    have hAr := (hK.2 _ _ hty).1
    have h4 := hk ls _ h H locs lsA hp (hA.stk (mm_cons (show mmOk (h 0 0) (1, ((sh x).2 : Int)) from ⟨by show _ ≤ ((sh x).2 : Int); omega, by show ((sh x).2 : Int) < _; omega⟩) (mm_tail hs)))
    rw [List.map_cons] at h4 ⊢
    rw [g3]
    refine W.alen hx hb hcell (hAr _ _) ?_ rfl rfl hd h4
    rw [arrV_size]
    exact Int32.ofInt_eq_ofNat.symm
end MR4
end
section
/-! ===== mm: a call, a return ===== -/
/-- a method's end: its value -/
def mmRv (B b g : Nat) (rt : Nat) (x : Int) : Option Value := if rt = 0 then none else some (mmVal B b g (mmRt rt, x))
/-- the tables' rows of rows: no words that are kept by themselves -/
def mmAO (U : State) : Prop := (Cond.arrayOver (.object "TileHeel$Roofs")).before #[] U = true ∧ (Cond.arrayOver (.array .int)).before #[] U = true
theorem mm_over_moved {ty : FieldType} {u U : State} (hvm : u.vm.Alike U.vm) (h : (Cond.arrayOver (.array ty)).before #[] u = true) : (Cond.arrayOver (.array ty)).before #[] U = true := by
  unfold Cond.before Cond.holds at h ⊢
  simp only [Cond.value, beq_iff_eq] at h ⊢
  obtain ⟨comp, hc, h2⟩ := Option.bind_eq_some_iff.mp h
  obtain ⟨c, hi, h3⟩ := Option.bind_eq_some_iff.mp h2
  obtain ⟨k, hk, hb⟩ := Option.map_eq_some_iff.mp h3
  obtain ⟨k', hk', he⟩ := hvm.2.2 _ _ hk
  have hi2 : (U.vm.classes.findIdx? fun (x : Class) => match x.kind with | .array component _ => component == comp | _ => false) = some c := by
    refine Eq.trans (va_idx_bare U.vm comp).symm ?_
    have hbe : U.vm.bare = u.vm.bare := by first | exact hvm.bare_eq | exact hvm.bare_eq.symm
    rw [hbe]
    exact (va_idx_bare u.vm comp).trans hi
  have hkd : k'.kind = k.kind := by rw [he]
  have hf : ∀ n, U.vm.findClass n = u.vm.findClass n := fun n => by rw [hvm.findClass]
  refine Option.bind_eq_some_iff.mpr ⟨comp, by rw [hf]; exact hc, Option.bind_eq_some_iff.mpr ⟨c, hi2, Option.map_eq_some_iff.mpr ⟨k', hk', ?_⟩⟩⟩
  rw [hkd, hf]
  exact hb
theorem mmAO.moved {u U : State} (hvm : u.vm.Alike U.vm) (h : mmAO u) : mmAO U := ⟨(va_AO.moved hvm (va_AO.of h.1)).use, mm_over_moved hvm h.2⟩
def mmKA (D : va_G) (cl : List vw_C) (tys : List (ClassId × FieldType)) (U : State) : Prop := va_K D cl tys U ∧ mmAO U
theorem mmKA.moved {D : va_G} {cl : List vw_C} {tys : List (ClassId × FieldType)} {u U : State} (hvm : u.vm.Alike U.vm) (h : mmKA D cl tys u) : mmKA D cl tys U := ⟨va_K.moved hvm h.1, h.2.moved hvm⟩
/-- the world at a method's start and end -/
def mmWd (sh : Int → Nat × Nat) (tg : Nat → Nat → Nat) (B b g : Nat) (aC : Nat → ClassId) (D : va_G) (cl : List vw_C) (tys : List (ClassId × FieldType)) (h : mmH) (U : State) : Prop :=
  va_P D cl (mmWs sh tg B b g aC h) U.heap ∧ U.heap.size = B + (h 0 0).toNat ∧ mmKA D cl tys U ∧ mmOkH sh tg h
def mmAv (B b g : Nat) (ts : List Nat) (as : List Int) : List Value := (List.zip ts as).map (fun q => mmVal B b g q)
def mmQc (sh : Int → Nat × Nat) (tg : Nat → Nat → Nat) (B b g : Nat) (aC : Nat → ClassId) (D : va_G) (cl : List vw_C) (tys : List (ClassId × FieldType)) (rt mc ms : Nat) (h : mmH) (Q : Int → mmH → Prop) : Array Value → State → Outcome → State → Prop := fun _ st o t =>
  (∃ (x : Int) (h' : mmH), o = .returned (mmRv B b g rt x) ∧ Q x h' ∧ mmOk (h' 0 0) (mmRt rt, x) ∧ (h' 0 0 = h 0 0 + mc ∧ h' 0 1 = h 0 1 + ms) ∧ mmWd sh tg B b g aC D cl tys h' t) ∧ va_F (mmA B) st t
/-- a method's contract -/
def mmMet (sh : Int → Nat × Nat) (tg : Nat → Nat → Nat) (B b g : Nat) (aC : Nat → ClassId) (D : va_G) (cl : List vw_C) (tys : List (ClassId × FieldType)) (l : Launch) (y : MethodName) (ws : List Cond) (rm : Room) (ts : List Nat) (rt mc ms : Nat) (as : List Int) (h : mmH) (Q : Int → mmH → Prop) : Prop :=
  as.length = ts.length → (∀ q ∈ List.zip ts as, mmOk (h 0 0) q) → Met l y ws rm (va_Pc (mmAv B b g ts as) (mmWd sh tg B b g aC D cl tys h)) (mmQc sh tg B b g aC D cl tys rt mc ms h Q) mc ms (mmA B)
section MR5
variable {sh : Int → Nat × Nat} {tg : Nat → Nat → Nat} {B b g : Nat} {aC : Nat → ClassId} {p : Program} {l : Launch} {e : Env} {R : Room} {s : State} {m : MethodId} {args : Array Value} {below : List Frame} {meth : Method} {c : Code} {H0 : Heap} {D : va_G} {cl : List vw_C} {nL n0 z0 : Nat} {Qm : State → Prop}
variable {pc : Nat} {k : mmKont} {cc : ByteArray} {wn : Int → Bool} {tys : List (ClassId × FieldType)}
theorem mmPop_spec : ∀ (ts : List Nat) (st : List mmV) (acc as : List Int) (r : List mmV), mmPop ts st acc = some (as, r) → ∃ bs : List Int, as = bs.reverse ++ acc ∧ bs.length = ts.length ∧ st = List.zip ts bs ++ r
  | [], st, acc, as, r, h => by
    simp only [mmPop, Option.some.injEq, Prod.mk.injEq] at h
    exact ⟨[], by rw [h.1]; rfl, rfl, by rw [h.2]; rfl⟩
  | t :: ts, [], acc, as, r, h => by simp [mmPop] at h
  | t :: ts, v :: st, acc, as, r, h => by
    unfold mmPop at h
    cases e : Nat.beq v.1 t with
    | false => rw [e] at h; simp at h
    | true =>
      rw [e] at h
      simp only [cond_true] at h
      obtain ⟨bs, h1, h2, h3⟩ := mmPop_spec ts st (v.2 :: acc) as r h
      have ev : v.1 = t := mm_beq e
      refine ⟨v.2 :: bs, by rw [h1]; simp, by simp [h2], ?_⟩
      rw [h3, ← ev]
      rfl
theorem mm_zipR : ∀ (ts : List Nat) (bs : List Int), bs.length = ts.length → (List.zip ts bs).reverse = List.zip ts.reverse bs.reverse
  | [], bs, h => by simp
  | t :: ts, [], h => by simp at h
  | t :: ts, x :: bs, h => by
    have hl : bs.length = ts.length := by simpa using h
    rw [List.zip_cons_cons, List.reverse_cons, List.reverse_cons, List.reverse_cons, mm_zipR ts bs hl, List.zip_append (by simp [hl])]
    rfl
/-- what a call finds on the stack -/
theorem mm_args {ts : List Nat} {st r : List mmV} {as : List Int} {n : Int} (h : mmPop ts st [] = some (as, r)) (hs : ∀ v ∈ st, mmOk n v) :
    as.length = ts.reverse.length ∧ (∀ q ∈ List.zip ts.reverse as, mmOk n q) ∧ (∀ q ∈ r, mmOk n q) ∧ st.map (mmVal B b g) = (mmAv B b g ts.reverse as).reverse ++ r.map (mmVal B b g) := by
  obtain ⟨bs, h1, h2, h3⟩ := mmPop_spec ts st [] as r h
  rw [List.append_nil] at h1
  have e := mm_zipR ts bs h2
  rw [h1, ← e]
  refine ⟨by simp [h2], fun q hq => hs q (by rw [h3]; exact List.mem_append_left _ (List.mem_reverse.mp hq)), fun q hq => hs q (by rw [h3]; exact List.mem_append_right _ hq), ?_⟩
  rw [h3, List.map_append]
  congr 1
  unfold mmAv
  rw [← e, List.map_reverse, List.reverse_reverse]
theorem mm_blind {av : List Value} {h : mmH} : FrameBlind (va_Pc av (mmWd sh tg B b g aC D cl tys h)) := by
  intro a U gg mk q
  obtain ⟨q1, q2, q3, q4, q5⟩ := q
  exact ⟨q1, q2, q3, mmKA.moved (u := U) (U := U.calling gg mk a) (Vm.Alike.refl U.vm) q4, q5⟩
theorem mm_cat {r : List mmV} : ((r.map (mmVal B b g)).map fun v => v.category).sum = mmCat r := by
  induction r with
  | nil => rfl
  | cons v r ih =>
    rw [List.map_cons, List.map_cons, List.sum_cons, ih, mmVal_cat]
    show _ = (bif Nat.beq v.1 2 then 2 else 1) + mmCat r
    congr 1
    cases e : Nat.beq v.1 2 with
    | true => rw [if_pos (mm_beq e)]; rfl
    | false => rw [if_neg (fun q => by rw [q] at e; cases e)]; rfl
/-- behind a call: the caller goes on -/
theorem mm_after {y : Array Value} {rt mc ms : Nat} {h : mmH} {Q : Int → mmH → Prop} {H : Heap} {locs : List Loc} {ls st r : List mmV} {lsA : Array Slot} (hKx : va_K D cl tys s)
    (hrun : va_Run p l e R s m args below meth c H locs ((h 0 0).toNat - n0) ((h 0 1).toNat - z0) mc ms (F0 m pc lsA (st.map (mmVal B b g))) (r.map (mmVal B b g)) (mmQc sh tg B b g aC D cl tys rt mc ms h Q y) (mmA B))
    (hA : mmIn sh tg B b g aC R H0 D cl nL n0 z0 ls st h H locs lsA) (hr : ∀ q ∈ r, mmOk (h 0 0) q) (hcap : (h 0 0).toNat - n0 + mc ≤ R.cells ∧ (h 0 1).toNat - z0 + ms ≤ R.slots)
    (hQ : ∀ x h', Q x h' → k ls (mmPush (mmRt rt) x r) h') (hrt : rt = 0 ∨ mmRt rt ≠ 0) (hk : mmKS sh tg B b g aC p l e R s m args below meth c H0 D cl nL n0 z0 Qm (pc + 3) k) : W p l e R s m args below meth c H locs ((h 0 0).toNat - n0) ((h 0 1).toNat - z0) Qm (F0 m pc lsA (st.map (mmVal B b g))) := by
  intro T hT X
  obtain ⟨v, st₀, t, T', Lc, h0, X', hL, e1, e2, ⟨⟨x, h', hv, hq, hok, ⟨hn1, hn2⟩, w1, w2, w3, w4⟩, hz, hf⟩, stp⟩ := hrun T hT X
  have hv : v = mmRv B b g rt x := Outcome.returned.inj hv
  subst hv
  rw [h0] at hz hf
  have hW := hA.wh
  have hcnt := hA.2.2.2.2.2
  have hge : h 0 0 ≤ h' 0 0 := by omega
  have q1 := hW.2.2.2.1
  have q2 := hW.2.2.2.2.1
  have hst2 : ∀ q ∈ mmPush (mmRt rt) x r, mmOk (h' 0 0) q := by
    unfold mmPush
    cases Nat.beq (mmRt rt) 0 with
    | true => exact fun q hq => mmOk_mono (hr q hq) hge
    | false => exact mm_cons hok (fun q hq => mmOk_mono (hr q hq) hge)
  have hA2 : mmIn sh tg B b g aC R H0 D cl nL n0 z0 ls (mmPush (mmRt rt) x r) h' T'.heap (locs ++ Lc) lsA := by
    refine ⟨hA.1, hA.2.1, fun q hq => mmOk_mono (hA.2.2.1 q hq) hge, hst2, ⟨by rw [e1]; exact w1, by rw [e1]; exact w2, ?_, w4⟩, by omega, by omega, by omega, by omega⟩
    have hS := hW.2.2.1
    refine ⟨Nat.le_trans hS.1 (by rw [e1]; exact hz), fun q h1 h2 => ?_, fun q hq => ?_⟩
    · rw [e1, hf q (Nat.lt_of_lt_of_le h1 hS.1) h2]
      exact hS.2.1 q h1 h2
    · rcases List.mem_append.mp hq with h1 | h1
      · exact hS.2.2 q h1
      · exact hL q h1
  have key := hk ls _ h' T'.heap (locs ++ Lc) lsA (hQ x h' hq) hA2
  have en : (h' 0 0).toNat - n0 = (h 0 0).toNat - n0 + mc := by omega
  have ez : (h' 0 1).toNat - z0 = (h 0 1).toNat - z0 + ms := by omega
  rw [en, ez] at key
  obtain ⟨t2, a1, b1⟩ := key T' rfl X'
  refine ⟨t2, stp t2 ?_, b1⟩
  have es : (mmPush (mmRt rt) x r).map (mmVal B b g) = (mmRv B b g rt x).toList ++ r.map (mmVal B b g) := by
    unfold mmPush mmRv
    by_cases e0 : rt = 0
    · subst e0; rfl
    · rw [if_neg e0]
      have : Nat.beq (mmRt rt) 0 = false := by
        cases e : Nat.beq (mmRt rt) 0 with
        | false => rfl
        | true => exact absurd (mm_beq e) (hrt.resolve_left e0)
      rw [this]
      rfl
  rw [es] at a1
  exact a1
/-- the three kinds of call: 'static' 1, a constructor 2, a method of an object 0 -/
theorem ks_call (hx : p.tables.exec = Jvm.exec) (hb : c.code = cc) (hml : c.maxLocals = nL) {own : String} {Ts : List Cond} (hown : s.vm.findClass own = some m.cls) (hts : ∀ w ∈ Ts, w.before args s = true) (hKA : mmKA D cl tys s) (hs0 : (sh 0).1 = 99)
    {mp : Nat → mmM} {K : Nat → List Int → mmH → (Int → mmH → Prop) → Prop} {mc ms : Int} {mi maxL index : Nat} {y : MethodName} {bytes : ByteArray} {ret : Option FieldType} {ws : List Cond} {rm : Room}
    (hmc : mc = (R.cells : Int)) (hms : ms = (R.slots : Int))
    (hmet : ∀ as h Q, K mi as h Q → mmMet sh tg B b g aC D cl tys l y ws rm (mp mi).1.reverse (mp mi).2.1 (mp mi).2.2.2.1 (mp mi).2.2.2.2.1 as h Q)
    (hrt : (mp mi).2.1 = 0 ∨ mmRt (mp mi).2.1 ≠ 0)
    (hd : (∃ C T N n, (mp mi).2.2.1 < 99 ∧ cl[(mp mi).2.2.1]? = some (C, T, N) ∧ (∀ x, (sh x).1 = (mp mi).2.2.1 → (sh x).2 = N) ∧ (∃ ts, (mp mi).1.reverse = 3 :: ts ∧ ts.length = n) ∧
          ((decode cc pc = .ok (.invokevirtual index, 3) ∧ CallW R s args own C index y bytes maxL ret ws rm (mp mi).2.2.2.1 (mp mi).2.2.2.2.1 n) ∨
           (decode cc pc = .ok (.invokespecial index, 3) ∧ ret = none ∧ CallB R s args own index y bytes maxL ret ws rm (mp mi).2.2.2.1 (mp mi).2.2.2.2.1 n ∧ y.name = "<init>" ∧ (Cond.instanceMethod y).before args s = true))) ∨
        ((mp mi).2.2.1 = 99 ∧ decode cc pc = .ok (.invokestatic index, 3) ∧ CallB R s args own index y bytes maxL ret ws rm (mp mi).2.2.2.1 (mp mi).2.2.2.2.1 (mp mi).1.length ∧ (Cond.static y).before args s = true))
    (hk : mmKS sh tg B b g aC p l e R s m args below meth c H0 D cl nL n0 z0 Qm (pc + 3) k) : mmKS sh tg B b g aC p l e R s m args below meth c H0 D cl nL n0 z0 Qm pc (oCall sh mp K n0 z0 mc ms mi k) := by
  have hKx := hKA.1
  intro ls st h H locs lsA hp hA
  unfold oCall at hp
  cases hpop : mmPop (mp mi).1 st [] with
  | none => rw [hpop] at hp; exact hp.elim
  | some q =>
    obtain ⟨as, r⟩ := q
    rw [hpop] at hp
    obtain ⟨hcat, hp⟩ := mmG_iff.mp hp
    obtain ⟨hrecv, hp⟩ := mmG_iff.mp hp
    obtain ⟨hbud, hK2⟩ := mmG_iff.mp hp
    obtain ⟨a1, a2, a3, a4⟩ := mm_args (B := B) (b := b) (g := g) hpop hA.okS
    have hcap : (h 0 0).toNat - n0 + (mp mi).2.2.2.1 ≤ R.cells ∧ (h 0 1).toNat - z0 + (mp mi).2.2.2.2.1 ≤ R.slots := by
      have hcnt := hA.2.2.2.2.2
      cases e : (Nat.beq (mp mi).2.2.2.1 0 && Nat.beq (mp mi).2.2.2.2.1 0) with
      | true =>
        simp only [Bool.and_eq_true] at e
        have e1 := mm_beq e.1
        have e2 := mm_beq e.2
        omega
      | false =>
        rw [e, Bool.false_or] at hbud
        have hbud := of_decide_eq_true hbud
        omega
    have hM := hmet as h _ hK2 a1 a2
    have hsize : lsA.size = nL := hA.1.1
    have hW := hA.wh
    have hcat' : 2 * (F0 m pc lsA (st.map (mmVal B b g))).monitorRoom + ((r.map (mmVal B b g)).map fun v => v.category).sum ≤ 8 := by
      show 2 * 0 + _ ≤ 8
      rw [mm_cat]
      have := mm_ble hcat
      simp only [] at this
      omega
    have hwd : ∀ U : State, U.heap = H → s.WarmedH U.vm → va_Pc (mmAv B b g (mp mi).1.reverse as) (mmWd sh tg B b g aC D cl tys h) (mmAv B b g (mp mi).1.reverse as).toArray U :=
      fun U hU hWm => ⟨rfl, by rw [hU]; exact hW.1, by rw [hU]; exact hW.2.1, mmKA.moved hWm.alike hKA, hW.2.2.2⟩
    rcases hd with ⟨C, T, N, n, hci, hc, hshN, ⟨ts, hts3, htn⟩, hd⟩ | ⟨h99, hd, cw, hst⟩
    · have hne : ¬ (mp mi).2.2.1 = 99 := by omega
      have hb99 : Nat.beq (mp mi).2.2.1 99 = false := by
        cases e : Nat.beq (mp mi).2.2.1 99 with
        | false => rfl
        | true => exact absurd (mm_beq e) hne
      rw [hb99, Bool.false_or] at hrecv
      cases as with
      | nil => rw [hts3] at a1; simp at a1
      | cons x0 as' =>
        simp only [List.headD_cons] at hrecv
        have hrecv := mm_beq hrecv
        have hok0 : mmOk (h 0 0) (3, x0) := a2 _ (by rw [hts3, List.zip_cons_cons]; exact List.mem_cons_self)
        obtain ⟨g1, g2, g3⟩ := mm_pos (B := B) (b := b) (g := g) hs0 hok0 hrecv hne
        have he := mmWs_get sh tg B b g aC g1 g2
        rw [mmE_o hrecv hci (hshN x0 hrecv)] at he
        have hav : mmAv B b g (mp mi).1.reverse (x0 :: as') = .ref (B + x0.toNat) :: mmAv B b g ts as' := by
          rw [hts3]
          show (mmVal B b g (3, x0)) :: _ = _
          rw [g3]
          rfl
        have hlen : (mmAv B b g ts as').length = n := by
          rw [hts3] at a1
          have : as'.length = ts.length := by simpa using a1
          unfold mmAv
          rw [List.length_map, List.length_zip, this, Nat.min_self, htn]
        rw [hav] at hM hwd a4
        rw [List.reverse_cons, List.append_assoc] at a4
        have hstk : st.map (mmVal B b g) = (mmAv B b g ts as').reverse ++ .ref (B + x0.toNat) :: r.map (mmVal B b g) := a4
        rcases hd with ⟨hd, cw⟩ | ⟨hd, rfl, cw⟩
        · refine mm_after (rt := (mp mi).2.1) hKx (va_runV (As := mmAv B b g ts as') (rest := r.map (mmVal B b g)) (b := B + x0.toNat) ⟨hx, hb, hml, hown, hts⟩ hM cw ⟨mm_blind, va_recv hKx hW.1 hc he, hwd⟩ rfl hlen hsize hstk hcat' hd hcap) hA a3 hcap (fun x h' q => q) hrt hk
        · refine mm_after (rt := (mp mi).2.1) hKx (va_runI (As := mmAv B b g ts as') (rest := r.map (mmVal B b g)) (b := B + x0.toNat) ⟨hx, hb, hml, hown, hts⟩ hM cw ⟨mm_blind, hwd⟩ rfl hlen hsize hstk hcat' hd hcap) hA a3 hcap (fun x h' q => q) hrt hk
    · have hlen : (mmAv B b g (mp mi).1.reverse as).length = (mp mi).1.length := by
        unfold mmAv
        rw [List.length_map, List.length_zip, a1, Nat.min_self, List.length_reverse]
      refine mm_after (rt := (mp mi).2.1) hKx (va_runS (As := mmAv B b g (mp mi).1.reverse as) (rest := r.map (mmVal B b g)) ⟨hx, hb, hml, hown, hts⟩ hM ⟨cw, hst⟩ ⟨mm_blind, hwd⟩ rfl hlen hsize a4 hcat' hd hcap) hA a3 hcap (fun x h' q => q) hrt hk
theorem ks_obj (hx : p.tables.exec = Jvm.exec) (hb : c.code = cc) (hml : c.maxLocals = nL) {own : String} {idx : Nat} (hown : s.vm.findClass own = some m.cls) (hlink : (Cond.methodLink own idx Lib.objectInit).before args s = true) (hinst : (Cond.instanceMethod Lib.objectInit).before args s = true) (hcode : (Cond.code Lib.objectInit ⟨#[0xb1]⟩ 1 none).before args s = true)
    (hR : 1 ≤ R.frames ∧ 20 ≤ R.locals) (hd : decode cc pc = .ok (.invokespecial idx, 3)) (hk : mmKS sh tg B b g aC p l e R s m args below meth c H0 D cl nL n0 z0 Qm (pc + 3) k) : mmKS sh tg B b g aC p l e R s m args below meth c H0 D cl nL n0 z0 Qm pc (oObj k) := by
  intro ls st h H locs lsA hp hA
  match st, hp, hA with
  | ⟨t, x⟩ :: r, hp, hA =>
    obtain ⟨ht, hp⟩ := mmG_iff.mp hp
    obtain ⟨h1, hp2⟩ := mmD_iff.mp hp
    simp only [Bool.and_eq_true] at ht
    have e1 : t = 3 := mm_beq ht.1
    subst e1
    have hs := hA.okS
    have h1' : ¬ x = 0 := h1
    have hv : mmVal B b g (3, x) = .ref (B + x.toNat) := by simp only [mmVal, h1', if_false]
    rw [List.map_cons, hv]
    have hcat := mm_ble ht.2
    refine W.objInit hx hb hown hlink hinst hcode rfl (by rw [hml]; exact hA.1.1) rfl hd hR.1 ?_ (hk ls _ h H locs lsA hp2 (hA.stk (mm_tail hs)))
    show 2 * 0 + _ + 12 ≤ _
    rw [mm_cat]
    omega
end MR5
end
section
/-! ===== mm: a return ===== -/
def mmGrow (mc ms : Nat) (h0 h : mmH) : Prop := (mc = 0 ∧ ms = 0) ∨ (h 0 0 = h0 0 0 + mc ∧ h 0 1 = h0 0 1 + ms)
section MR6
variable {sh : Int → Nat × Nat} {tg : Nat → Nat → Nat} {B b g : Nat} {aC : Nat → ClassId} {p : Program} {l : Launch} {e : Env} {R : Room} {s : State} {m : MethodId} {args : Array Value} {below : List Frame} {meth : Method} {c : Code} {H0 : Heap} {D : va_G} {cl : List vw_C} {nL n0 z0 : Nat} {Qm : State → Prop}
variable {pc : Nat} {cc : ByteArray} {tys : List (ClassId × FieldType)}
theorem ks_ret {Q : Int → mmH → Prop} {rt mcN msN : Nat} {h0 : mmH} {ret : Option FieldType} (hx : p.tables.exec = Jvm.exec) (hb : c.code = cc) (hlocks : meth.locks = false) (hH0 : H0 = s.heap) (hn0 : n0 = (h0 0 0).toNat) (hz0 : z0 = (h0 0 1).toNat) (hp0 : 0 ≤ h0 0 0 ∧ 0 ≤ h0 0 1)
    (hcap : R.cells = mcN ∧ R.slots = msN) (hKx : mmKA D cl tys s) (hret : meth.sig.returnType = ret) (hQm : Qm = MQ below (mmQc sh tg B b g aC D cl tys rt mcN msN h0 Q) args s mcN msN (mmA B))
    (hd : (rt = 0 ∧ decode cc pc = .ok (.return_, 1) ∧ ret = none) ∨ (rt = 1 ∧ decode cc pc = .ok (.ireturn, 1) ∧ ret = some .int) ∨ (rt = 2 ∧ decode cc pc = .ok (.lreturn, 1) ∧ ret = some .long) ∨ (rt = 3 ∧ decode cc pc = .ok (.areturn, 1) ∧ ∃ ty, ret = some ty ∧ ((∃ n, ty = .object n) ∨ ∃ t, ty = .array t)) ∨ (rt = 4 ∧ decode cc pc = .ok (.ireturn, 1) ∧ ret = some .boolean)) :
    mmKS sh tg B b g aC p l e R s m args below meth c H0 D cl nL n0 z0 Qm pc (oRet (fun x h => mmGrow mcN msN h0 h ∧ Q x h) rt) := by
  intro ls st h H locs lsA hp hA
  have hW := hA.wh
  have hcnt := hA.2.2.2.2.2
  have hs := hA.okS
  have key : ∀ (x : Int), (mmGrow mcN msN h0 h ∧ Q x h) → mmOk (h 0 0) (mmRt rt, x) → (((h 0 0).toNat - n0 = mcN ∧ (h 0 1).toNat - z0 = msN) ∧ ∀ t : State, t.heap = H → s.WarmedH t.vm → mmQc sh tg B b g aC D cl tys rt mcN msN h0 Q args s (.returned (mmRv B b g rt x)) t) := by
    intro x hq hok
    obtain ⟨hg, hq⟩ := hq
    have hW3 := hW.2.2.2
    have e : h 0 0 = h0 0 0 + mcN ∧ h 0 1 = h0 0 1 + msN := by
      rcases hg with hg | hg
      · have := hW3.1
        have := hW3.2.1
        omega
      · exact hg
    refine ⟨by omega, fun t ht hw => ⟨⟨x, h, rfl, hq, hok, e, by rw [ht]; exact hW.1, by rw [ht]; exact hW.2.1, mmKA.moved hw.alike hKx, hW3⟩, ?_⟩⟩
    have := hW.2.2.1
    rw [hH0] at this
    exact this.F ht
  have hf : ∀ q ∈ locs, mmA B q.base := hW.2.2.1.2.2
  rw [hQm]
  rcases hd with ⟨rfl, hd, rfl⟩ | ⟨rfl, hd, rfl⟩ | ⟨rfl, hd, rfl⟩ | ⟨rfl, hd, ty, rfl, hty⟩ | ⟨rfl, hd, rfl⟩
  · match st, hp, hA, hs with
    | [], hp, hA, hs =>
      obtain ⟨⟨k1, k2⟩, k3⟩ := key 0 hp trivial
      rw [k1, k2]
      exact W.vret hx hb hret k3 hf hd hlocks
  · match st, hp, hA, hs with
    | [⟨t, x⟩], hp, hA, hs =>
      obtain ⟨ht, hp2⟩ := mmG_iff.mp hp
      have e1 : t = 1 := mm_beq ht
      subst e1
      obtain ⟨⟨k1, k2⟩, k3⟩ := key x hp2 (mm_head hs)
      rw [k1, k2]
      exact W.iret hx hb hret k3 hf hd hlocks
  · match st, hp, hA, hs with
    | [⟨t, x⟩], hp, hA, hs =>
      obtain ⟨ht, hp2⟩ := mmG_iff.mp hp
      have e1 : t = 2 := mm_beq ht
      subst e1
      obtain ⟨⟨k1, k2⟩, k3⟩ := key x hp2 (mm_head hs)
      rw [k1, k2]
      exact W.lret hx hb hret k3 hf hd hlocks
  · match st, hp, hA, hs with
    | [⟨t, x⟩], hp, hA, hs =>
      obtain ⟨ht, hp2⟩ := mmG_iff.mp hp
      have e1 : t = 3 := mm_beq ht
      subst e1
      obtain ⟨⟨k1, k2⟩, k3⟩ := key x hp2 (mm_head hs)
      rw [k1, k2]
      refine W.aret (v := mmVal B b g (3, x)) hx hb hret hty ?_ k3 hf hd hlocks
      by_cases e0 : x = 0
      · exact Or.inl (by simp only [mmVal, e0, if_true])
      · exact Or.inr ⟨B + x.toNat, by simp only [mmVal, e0, if_false]⟩
  · match st, hp, hA, hs with
    | [⟨t, x⟩], hp, hA, hs =>
      obtain ⟨ht, hp⟩ := mmG_iff.mp hp
      obtain ⟨h01, hp2⟩ := mmD_iff.mp hp
      have e1 : t = 1 := mm_beq ht
      subst e1
      obtain ⟨⟨k1, k2⟩, k3⟩ := key x hp2 (mm_head hs)
      rw [k1, k2]
      refine W.zret (ty := .boolean) hx hb hret ?_ k3 hf hd hlocks
      rcases h01 with h01 | h01
      · have e1 : x = 0 := h01
        subst e1
        decide
      · have e1 : x = 1 := h01
        subst e1
        decide
/-- the script -/
theorem ks_sld {L : Int} {xs : Int → Int} {k : mmKont} {Ln : Nat} {xs' : Nat → Int32} (hx : p.tables.exec = Jvm.exec) (hb : c.code = cc) (hX : va_X b Ln xs' s H0) (hbl : b < H0.size) (hbB : b ≤ B) (hL : L = (Ln : Int)) (hL2 : Ln < 2147483648) (hxs : ∀ j : Nat, j < Ln → xs j = (xs' j).toInt) (hd : decode cc pc = .ok (.iaload, 1))
    (hk : mmKS sh tg B b g aC p l e R s m args below meth c H0 D cl nL n0 z0 Qm (pc + 1) k) : mmKS sh tg B b g aC p l e R s m args below meth c H0 D cl nL n0 z0 Qm pc (oSld L xs k) := by
  intro ls st h H locs lsA hp hA
  match st, hp, hA with
  | ⟨ti, i⟩ :: ⟨t, x⟩ :: r, hp, hA =>
    obtain ⟨ht, ⟨h2, h3⟩, hp2⟩ := mmG_iff.mp hp
    simp only [Bool.and_eq_true] at ht
    have e1 : t = 4 := mm_beq ht.2
    have e2 : ti = 1 := mm_beq ht.1
    subst e1; subst e2
    simp only [] at h2 h3
    have hs := hA.okS
    have ei : (Int32.ofInt i).toNatClampNeg = i.toNat := mm_cl h2 (by omega)
    have ez : ((i.toNat : Nat) : Int) = i := by omega
    have ev : xs i = (xs' i.toNat).toInt := by rw [← hxs i.toNat (by omega), ez]
    have h4 := hk ls _ h H locs lsA hp2 (hA.stk (mm_cons (show mmOk (h 0 0) (1, xs i) by rw [ev]; exact mm_r32 _) (mm_tail (mm_tail hs))))
    refine va_sld hx hb hX hbl (fun q => by unfold mmA at q; omega) hA.wh.2.2.1 (i := Int32.ofInt i) (mm_in h2 (by omega) (by omega)) hd ?_
    rw [ei]
    rw [List.map_cons] at h4
    have e5 : mmVal B b g (1, xs (1, i).2) = .int (xs' i.toNat) := by
      show Value.int (Int32.ofInt (xs i)) = _
      rw [ev, mm_o32]
    rw [e5] at h4
    exact h4
theorem ks_slen {L : Int} {k : mmKont} {Ln : Nat} {xs' : Nat → Int32} (hx : p.tables.exec = Jvm.exec) (hb : c.code = cc) (hX : va_X b Ln xs' s H0) (hbl : b < H0.size) (hbB : b ≤ B) (hL : L = (Ln : Int)) (hL2 : Ln < 2147483648) (hd : decode cc pc = .ok (.arraylength, 1))
    (hk : mmKS sh tg B b g aC p l e R s m args below meth c H0 D cl nL n0 z0 Qm (pc + 1) k) : mmKS sh tg B b g aC p l e R s m args below meth c H0 D cl nL n0 z0 Qm pc (oSlen L k) := by
  intro ls st h H locs lsA hp hA
  match st, hp, hA with
  | ⟨t, x⟩ :: r, hp, hA =>
    obtain ⟨ht, hp2⟩ := mmG_iff.mp hp
    have e1 : t = 4 := mm_beq ht
    subst e1
    have hs := hA.okS
    have h4 := hk ls _ h H locs lsA hp2 (hA.stk (mm_cons (show mmOk (h 0 0) (1, L) from ⟨by show _ ≤ L; omega, by show L < _; omega⟩) (mm_tail hs)))
    refine va_slen hx hb hX hbl (fun q => by unfold mmA at q; omega) hA.wh.2.2.1 hd ?_
    rw [List.map_cons] at h4
    have e5 : mmVal B b g (1, L) = .int (Int32.ofNat Ln) := by
      show Value.int (Int32.ofInt L) = _
      rw [hL]
      exact congrArg Value.int Int32.ofInt_eq_ofNat
    rw [e5] at h4
    exact h4
end MR6
end
section
/-! ===== mm: what is made ===== -/
section MR7
variable {sh : Int → Nat × Nat} {tg : Nat → Nat → Nat} {B b g : Nat} {aC : Nat → ClassId} {p : Program} {l : Launch} {e : Env} {R : Room} {s : State} {m : MethodId} {args : Array Value} {below : List Frame} {meth : Method} {c : Code} {H0 : Heap} {D : va_G} {cl : List vw_C} {nL n0 z0 : Nat} {Qm : State → Prop}
variable {pc : Nat} {k : mmKont} {cc : ByteArray} {tys : List (ClassId × FieldType)}
theorem mmWs_push {h h' : mmH} (h1 : 1 ≤ h 0 0) (hn : h' 0 0 = h 0 0 + 1) (ho : ∀ j : Int, 1 ≤ j → j < h 0 0 → h' j = h j) : mmWs sh tg B b g aC h' = mmWs sh tg B b g aC h ++ [(B + (h 0 0).toNat, mmE sh tg B b g aC (h 0 0) (h' (h 0 0)))] := by
  unfold mmWs
  have e : (h' 0 0).toNat - 1 = ((h 0 0).toNat - 1) + 1 := by omega
  rw [e, List.range_succ, List.map_append, List.map_singleton]
  have e1 : (((h 0 0).toNat - 1 : Nat) : Int) + 1 = h 0 0 := by omega
  have e2 : (h 0 0).toNat - 1 + 1 = (h 0 0).toNat := by omega
  rw [e1, e2]
  congr 1
  apply List.map_congr_left
  intro q hq
  have hq2 := List.mem_range.mp hq
  rw [ho ((q : Int) + 1) (by omega) (by omega)]
/-- one more cell -/
theorem mmWH.push {h h' : mmH} {H H' : Heap} {locs : List Loc} (hW : mmWH sh tg B b g aC D cl H0 h H locs) (hn : h' 0 0 = h 0 0 + 1) (hz : 0 ≤ h' 0 1) (ho : ∀ j : Int, 1 ≤ j → j < h 0 0 → h' j = h j) (hb : ∀ i : Int, h' (h 0 0) i = 0) (hl : (sh (h 0 0)).2 < 2147483648)
    (z : H'.size = H.size + 1) (oq : ∀ q : Nat, q < H.size → H'[q]? = H[q]?) (hat : va_at D cl (B + (h 0 0).toNat, mmE sh tg B b g aC (h 0 0) (h' (h 0 0))) H') : mmWH sh tg B b g aC D cl H0 h' H' locs := by
  obtain ⟨w1, w2, w3, w4, w5, w6⟩ := hW
  refine ⟨?_, by rw [z, w2, hn]; omega, ⟨Nat.le_trans w3.1 (by omega), fun q q1 q2 => (oq q (Nat.lt_of_lt_of_le q1 w3.1)).trans (w3.2.1 q q1 q2), w3.2.2⟩, by omega, hz, fun a ha hlt => ?_⟩
  · rw [mmWs_push w4 hn ho]
    refine va_P.app (w1.kept fun i q hq => oq q.1 (w1 i q hq).lt) (fun i q hq => ?_)
    have hi : i < 1 := (List.getElem?_eq_some_iff.mp hq).1
    rw [show i = 0 by omega] at hq
    cases hq
    exact hat
  · rw [hn] at hlt ⊢
    by_cases e : a = h 0 0
    · subst e
      refine ⟨hl, fun i hi => ?_⟩
      rw [hb]
      unfold mmOk
      split <;> first | omega | trivial
    · rw [ho a ha (by omega)]
      obtain ⟨p1, p2⟩ := w6 a ha (by omega)
      exact ⟨p1, fun i hi => mmOk_mono (p2 i hi) (by omega)⟩
theorem mm_val0 {t : Nat} : mmVal B b g (t, 0) = (match t with | 1 => .int 0 | 2 => .long 0 | 3 => .null | 4 => .ref b | 5 => .ref g | _ => .null) := by
  match t with
  | 0 => rfl
  | 1 => rfl
  | 2 => rfl
  | 3 => rfl
  | 4 => rfl
  | 5 => rfl
  | n + 6 => rfl
theorem mm_dflt {ty : FieldType} (h0 : mmTy ty ≠ 0) : defaultValue ty = mmVal B b g (mmTy ty, 0) := by
  cases ty with
  | int => rfl
  | long => rfl
  | object C => rfl
  | array t => rfl
  | _ => exact absurd rfl h0
theorem mmIn.push {ls st : List mmV} {h h' : mmH} {H H' : Heap} {locs : List Loc} {lsA : Array Slot} (hA : mmIn sh tg B b g aC R H0 D cl nL n0 z0 ls st h H locs lsA) {r : List mmV} (hr : ∀ v ∈ r, mmOk (h 0 0) v) (hn : h' 0 0 = h 0 0 + 1) (hz : h 0 1 ≤ h' 0 1) (hcap : (h' 0 0).toNat - n0 ≤ R.cells ∧ (h' 0 1).toNat - z0 ≤ R.slots) (hW : mmWH sh tg B b g aC D cl H0 h' H' locs) : mmIn sh tg B b g aC R H0 D cl nL n0 z0 ls ((3, h 0 0) :: r) h' H' locs lsA := by
  have h1 := hA.wh.2.2.2.1
  have hcnt := hA.2.2.2.2.2
  refine ⟨hA.1, hA.2.1, fun v hv => mmOk_mono (hA.2.2.1 v hv) (by omega), mm_cons ⟨by show 0 ≤ h 0 0; omega, by show h 0 0 < h' 0 0; omega⟩ (fun v hv => mmOk_mono (hr v hv) (by omega)), hW, by omega, by omega, hcap.1, hcap.2⟩
theorem ks_new (hx : p.tables.exec = Jvm.exec) (hb : c.code = cc) {own C : String} {T : u_T} {ci N index : Nat} {Ts : List Cond} {mc ms : Int} (hmc : mc = (R.cells : Int)) (hms : ms = (R.slots : Int)) (hts : ∀ w ∈ Ts, w.before args s = true) (hin : ∀ w ∈ u_ws C T N, w ∈ Ts) (ty : Nat → FieldType) (hty : ∀ k, k < N → parseFieldDescriptor (T k).2.2.1 = some (ty k)) (hown : s.vm.findClass own = some m.cls) (hK : va_K D cl tys s)
    (hc : cl[ci]? = some (C, T, N)) (hci : ci < 99) (hsh : ∀ x, (sh x).1 = ci → (sh x).2 = N) (htg : ∀ f, f < N → tg ci f = mmTy (ty f) ∧ tg ci f ≠ 0) (hcl : (Cond.classLink own index C).before args s = true) (hinst : (Cond.instantiable C N).before args s = true) (hini : (Cond.initialized C).before args s = true) (hd : decode cc pc = .ok (.new index, 3))
    (hk : mmKS sh tg B b g aC p l e R s m args below meth c H0 D cl nL n0 z0 Qm (pc + 3) k) : mmKS sh tg B b g aC p l e R s m args below meth c H0 D cl nL n0 z0 Qm pc (oNew sh n0 z0 mc ms ci k) := by
  intro ls st h H locs lsA hp hA
  obtain ⟨⟨h1, h2⟩, ⟨h3, h4⟩, hp⟩ := hp
  have hW := hA.wh
  have hW1 := hW.2.2.2.1
  have hW2 := hW.2.2.2.2.1
  have hcnt := hA.2.2.2.2.2
  have hN := hsh _ h1
  rw [hN] at h4
  have e0 : mmS (mmS (mmZ h) 0 0 (h 0 0 + 1)) 0 1 (h 0 1 + ((sh (h 0 0)).2 : Int)) 0 0 = h 0 0 + 1 := by rw [mmS_slot, if_neg (by omega), mmS_self]
  have e1 : mmS (mmS (mmZ h) 0 0 (h 0 0 + 1)) 0 1 (h 0 1 + ((sh (h 0 0)).2 : Int)) 0 1 = h 0 1 + (N : Int) := by rw [mmS_self, hN]
  have eo : ∀ j : Int, 1 ≤ j → mmS (mmS (mmZ h) 0 0 (h 0 0 + 1)) 0 1 (h 0 1 + ((sh (h 0 0)).2 : Int)) j = mmZ h j := fun j hj => by
    funext i
    rw [mmS_cell (by omega), mmS_cell (by omega)]
  have ez : ∀ i : Int, mmZ h (h 0 0) i = 0 := fun i => by simp [mmZ]
  generalize hh' : mmS (mmS (mmZ h) 0 0 (h 0 0 + 1)) 0 1 (h 0 1 + ((sh (h 0 0)).2 : Int)) = h' at hp e0 e1 eo
  have hKn := hK.1 ci _ hc
  refine W.newcK hx hb hown hcl hinst hini rfl hd (by omega) (by omega) hKn.2.1 hW.2.1 fun H' kC hkC f1 f2 f3 => ?_
  have hat : va_at D cl (B + (h 0 0).toNat, mmE sh tg B b g aC (h 0 0) (h' (h 0 0))) H' := by
    rw [mmE_o h1 hci hN]
    refine ⟨_, hc, (u_born ty hts hin hKn hkC f1 hty).to fun j hj => ?_⟩
    show _ = vp_V _ _
    unfold vp_V
    rw [List.getD_eq_getElem?_getD, List.getElem?_map, List.getElem?_range hj]
    obtain ⟨t1, t2⟩ := htg j hj
    rw [mm_dflt (B := B) (b := b) (g := g) (by rw [← t1]; exact t2), eo _ hW1]
    simp [ez, t1]
  have hWn := hW.push (h' := h') (H' := H') e0 (by omega) (fun j j1 j2 => by rw [eo j j1]; funext i; simp [mmZ]; omega) (fun i => by rw [eo _ hW1, ez]) (by omega) (by rw [f2, hW.2.1]) (fun q hq => f3 q (by rw [← hW.2.1]; exact hq)) hat
  have := hk ls _ h' H' locs lsA hp (hA.push (r := st) hA.okS e0 (by omega) (by omega) hWn)
  have en : (h' 0 0).toNat - n0 = (h 0 0).toNat - n0 + 1 := by omega
  have ezz : (h' 0 1).toNat - z0 = (h 0 1).toNat - z0 + N := by omega
  rw [en, ezz] at this
  have ev : mmVal B b g (3, h 0 0) = .ref (B + (h 0 0).toNat) := by
    have : ¬ h 0 0 = 0 := by omega
    simp only [mmVal, this, if_false]
  rw [List.map_cons, ev] at this
  exact this
theorem mm_cb {kd : Nat} (h : kd < 4) : componentBytes (mmKt kd) ≤ 8 := by
  match kd, h with
  | 0, _ => decide
  | 1, _ => decide
  | 2, _ => decide
  | 3, _ => decide
theorem mm_nm {kd : Nat} {cA : ClassId} (h : kd < 4) (hr : va_RA s cA (mmKt kd)) : s.vm.findClass ("[" ++ (mmKt kd).toString) = some cA := by
  match kd, h, hr with
  | 0, _, hr => exact hr
  | 1, _, hr => exact hr
  | 2, _, hr => exact hr
  | 3, _, hr => exact hr
theorem mm_d0 {kd : Nat} (h : kd < 4) : defaultValue (mmKt kd) = mmVal B b g (mmEt kd, 0) := by
  match kd, h with
  | 0, _ => rfl
  | 1, _ => rfl
  | 2, _ => rfl
  | 3, _ => rfl
theorem ks_newA (hx : p.tables.exec = Jvm.exec) (hb : c.code = cc) {kd : Nat} {at_ : ArrayType} {mc ms : Int} (hmc : mc = (R.cells : Int)) (hms : ms = (R.slots : Int)) (hK : va_K D cl tys s) (hty : tys[kd]? = some (aC kd, mmKt kd)) (hk4 : kd < 4) (hat_ : newarray.typeOf at_ = mmKt kd) (harr : (Cond.arrayClass (newarray.typeOf at_)).before args s = true) (hd : decode cc pc = .ok (.newarray at_, 2))
    (hk : mmKS sh tg B b g aC p l e R s m args below meth c H0 D cl nL n0 z0 Qm (pc + 2) k) : mmKS sh tg B b g aC p l e R s m args below meth c H0 D cl nL n0 z0 Qm pc (oNewA sh n0 z0 mc ms kd k) := by
  intro ls st h H locs lsA hp hA
  match st, hp, hA with
  | ⟨t, x⟩ :: r, hp, hA =>
    obtain ⟨ht, ⟨h1, h2, h2'⟩, ⟨h3, h4⟩, hp2⟩ := mmG_iff.mp hp
    have et : t = 1 := mm_beq ht
    subst et
    simp only [] at h2 h2' h3 h4 hp2
    have hW := hA.wh
    have hW1 := hW.2.2.2.1
    have hW2 := hW.2.2.2.2.1
    have hcnt := hA.2.2.2.2.2
    have e0 : mmS (mmS (mmZ h) 0 0 (h 0 0 + 1)) 0 1 (h 0 1 + x) 0 0 = h 0 0 + 1 := by rw [mmS_slot, if_neg (by omega), mmS_self]
    have e1 : mmS (mmS (mmZ h) 0 0 (h 0 0 + 1)) 0 1 (h 0 1 + x) 0 1 = h 0 1 + x := by rw [mmS_self]
    have eo : ∀ j : Int, 1 ≤ j → mmS (mmS (mmZ h) 0 0 (h 0 0 + 1)) 0 1 (h 0 1 + x) j = mmZ h j := fun j hj => by
      funext i
      rw [mmS_cell (by omega), mmS_cell (by omega)]
    have ez : ∀ i : Int, mmZ h (h 0 0) i = 0 := fun i => by simp [mmZ]
    generalize hh' : mmS (mmS (mmZ h) 0 0 (h 0 0 + 1)) 0 1 (h 0 1 + x) = h' at hp2 e0 e1 eo
    have hx0 : 0 ≤ x := by omega
    have hcl : (Int32.ofInt x).toNatClampNeg = x.toNat := mm_cl hx0 (by omega)
    have hng : ¬ Int32.ofInt x < 0 := fun q => by
      rw [Int32.lt_iff_toInt_lt, mm_t32 (by omega) (by omega)] at q
      have : (0 : Int32).toInt = 0 := rfl
      omega
    have hcb : componentBytes (newarray.typeOf at_) ≤ 8 := by rw [hat_]; exact mm_cb hk4
    have hbytes : x.toNat * componentBytes (newarray.typeOf at_) ≤ 536870912 := Nat.le_trans (Nat.mul_le_mul (show x.toNat ≤ 65536 by omega) hcb) (by omega)
    rw [List.map_cons]
    refine va_newaK hx hb harr rfl hd rfl hng hcl hbytes (by omega) (by omega) hW.2.1 fun H' cA f1 f2 f3 f4 f5 => ?_
    have hnm := (hK.2 kd _ hty).2
    have hcA : cA = aC kd := by
      rw [hat_] at f5
      exact Option.some.inj (f5.symm.trans (mm_nm hk4 hnm))
    have hat : va_at D cl (B + (h 0 0).toNat, mmE sh tg B b g aC (h 0 0) (h' (h 0 0))) H' := by
      rw [mmE_a h1]
      show H'[B + (h 0 0).toNat]? = some (vp_cell _ _)
      rw [mmAr_cell (b := b) (g := g), f1, hcA, hat_]
      have : (sh (h 0 0)).2 = x.toNat := by omega
      rw [this]
      congr 2
      funext j
      rw [eo _ hW1, ez]
      exact mm_d0 hk4
    have hWn := hW.push (h' := h') (H' := H') e0 (by omega) (fun j j1 j2 => by rw [eo j j1]; funext i; simp [mmZ]; omega) (fun i => by rw [eo _ hW1, ez]) (by omega) (by rw [f2, hW.2.1]) (fun q hq => f3 q (by rw [← hW.2.1]; exact hq)) hat
    have := hk ls _ h' H' locs lsA hp2 (hA.push (r := r) (mm_tail hA.okS) e0 (by omega) (by omega) hWn)
    have en : (h' 0 0).toNat - n0 = (h 0 0).toNat - n0 + 1 := by omega
    have ezz : (h' 0 1).toNat - z0 = (h 0 1).toNat - z0 + x.toNat := by omega
    rw [en, ezz] at this
    have ev : mmVal B b g (3, h 0 0) = .ref (B + (h 0 0).toNat) := by
      have : ¬ h 0 0 = 0 := by omega
      simp only [mmVal, this, if_false]
    rw [List.map_cons, ev] at this
    exact this
theorem ks_newQ (hx : p.tables.exec = Jvm.exec) (hb : c.code = cc) {own : String} {index : Nat} {mc ms : Int} (hmc : mc = (R.cells : Int)) (hms : ms = (R.slots : Int)) (hown : s.vm.findClass own = some m.cls) (hK : va_K D cl tys s) (hty : tys[5]? = some (aC 5, mmKt 5)) (hclink : (Cond.classLink own index "TileHeel$Roofs").before args s = true) (hover : (Cond.arrayOver (.object "TileHeel$Roofs")).before args s = true) (hd : decode cc pc = .ok (.anewarray index, 3))
    (hk : mmKS sh tg B b g aC p l e R s m args below meth c H0 D cl nL n0 z0 Qm (pc + 3) k) : mmKS sh tg B b g aC p l e R s m args below meth c H0 D cl nL n0 z0 Qm pc (oNewA sh n0 z0 mc ms 5 k) := by
  intro ls st h H locs lsA hp hA
  match st, hp, hA with
  | ⟨t, x⟩ :: r, hp, hA =>
    obtain ⟨ht, ⟨h1, h2, h2'⟩, ⟨h3, h4⟩, hp2⟩ := mmG_iff.mp hp
    have et : t = 1 := mm_beq ht
    subst et
    simp only [] at h2 h2' h3 h4 hp2
    have hW := hA.wh
    have hW1 := hW.2.2.2.1
    have hW2 := hW.2.2.2.2.1
    have hcnt := hA.2.2.2.2.2
    have e0 : mmS (mmS (mmZ h) 0 0 (h 0 0 + 1)) 0 1 (h 0 1 + x) 0 0 = h 0 0 + 1 := by rw [mmS_slot, if_neg (by omega), mmS_self]
    have e1 : mmS (mmS (mmZ h) 0 0 (h 0 0 + 1)) 0 1 (h 0 1 + x) 0 1 = h 0 1 + x := by rw [mmS_self]
    have eo : ∀ j : Int, 1 ≤ j → mmS (mmS (mmZ h) 0 0 (h 0 0 + 1)) 0 1 (h 0 1 + x) j = mmZ h j := fun j hj => by
      funext i
      rw [mmS_cell (by omega), mmS_cell (by omega)]
    have ez : ∀ i : Int, mmZ h (h 0 0) i = 0 := fun i => by simp [mmZ]
    generalize hh' : mmS (mmS (mmZ h) 0 0 (h 0 0 + 1)) 0 1 (h 0 1 + x) = h' at hp2 e0 e1 eo
    have hx0 : 0 ≤ x := by omega
    have hcl : (Int32.ofInt x).toNatClampNeg = x.toNat := mm_cl hx0 (by omega)
    have hng : ¬ Int32.ofInt x < 0 := fun q => by
      rw [Int32.lt_iff_toInt_lt, mm_t32 (by omega) (by omega)] at q
      have : (0 : Int32).toInt = 0 := rfl
      omega
    rw [List.map_cons]
    refine W.anew hx hb hown hclink hover rfl hd rfl hng (by rw [hcl]; omega) (by omega) (by rw [hcl]; omega) fun cA kA comp f1 f2 f3 f4 => ?_
    rw [hcl]
    have hcA : cA = aC 5 := by
      obtain ⟨_, _, _, _, _, q⟩ := (hK.2 5 _ hty).2
      exact Option.some.inj (f1.symm.trans q)
    have hat : va_at D cl (B + (h 0 0).toNat, mmE sh tg B b g aC (h 0 0) (h' (h 0 0))) (H.push { cls := cA, slots := Array.replicate x.toNat .null, vm := .none }) := by
      rw [mmE_a h1]
      show (H.push _)[B + (h 0 0).toNat]? = some (vp_cell _ _)
      rw [mmAr_cell (b := b) (g := g), hcA, ← hW.2.1, Array.getElem?_push_size]
      have : (sh (h 0 0)).2 = x.toNat := by omega
      rw [this]
      have e5 : (fun j : Nat => mmVal B b g (mmEt 5, h' (h 0 0) j)) = fun _ => .null := by
        funext j
        rw [eo _ hW1, ez]
        rfl
      rw [e5, ← arrV_new]
    have hWn := hW.push (h' := h') (H' := H.push { cls := cA, slots := Array.replicate x.toNat .null, vm := .none }) e0 (by omega) (fun j j1 j2 => by rw [eo j j1]; funext i; simp [mmZ]; omega) (fun i => by rw [eo _ hW1, ez]) (by omega) (by simp) (fun q hq => by rw [Array.getElem?_push, if_neg (Nat.ne_of_lt hq)]) hat
    have := hk ls _ h' _ locs lsA hp2 (hA.push (r := r) (mm_tail hA.okS) e0 (by omega) (by omega) hWn)
    have en : (h' 0 0).toNat - n0 = (h 0 0).toNat - n0 + 1 := by omega
    have ezz : (h' 0 1).toNat - z0 = (h 0 1).toNat - z0 + x.toNat := by omega
    rw [en, ezz] at this
    have ev : mmVal B b g (3, h 0 0) = .ref H.size := by
      have : ¬ h 0 0 = 0 := by omega
      simp only [mmVal, this, if_false, hW.2.1]
    rw [List.map_cons, ev] at this
    exact this
end MR7
end
section
/-! ===== mm: System.arraycopy ===== -/
section MR8
variable {sh : Int → Nat × Nat} {tg : Nat → Nat → Nat} {B b g : Nat} {aC : Nat → ClassId} {p : Program} {l : Launch} {e : Env} {R : Room} {s : State} {m : MethodId} {args : Array Value} {below : List Frame} {meth : Method} {c : Code} {H0 : Heap} {D : va_G} {cl : List vw_C} {nL n0 z0 : Nat} {Qm : State → Prop}
variable {pc : Nat} {k : mmKont} {cc : ByteArray} {tys : List (ClassId × FieldType)} {wn : Int → Bool}
theorem mm_z32 {z : Int} (h1 : 0 ≤ z) (h2 : z < 2147483648) : ¬ Int32.ofInt z < 0 ∧ (Int32.ofInt z).toInt = z ∧ (Int32.ofInt z).toNatClampNeg = z.toNat := by
  have e := mm_t32 (x := z) (by omega) h2
  refine ⟨fun q => ?_, e, mm_cl h1 h2⟩
  rw [Int32.lt_iff_toInt_lt, e] at q
  have : (0 : Int32).toInt = 0 := rfl
  omega
theorem ks_cpy (hx : p.tables.exec = Jvm.exec) (hb : c.code = cc) (hml : c.maxLocals = nL) {own : String} {index : Nat} (hown : s.vm.findClass own = some m.cls) (hlink : (Cond.methodLink own index arraycopyName).before args s = true) (hnat : (Cond.native arraycopyName).before args s = true) (hstat : (Cond.static arraycopyName).before args s = true) (hini : (Cond.initialized "java/lang/System").before args s = true)
    (hK : va_K D cl tys s) (hs0 : (sh 0).1 = 99) (hty : tys[0]? = some (aC 0, .int)) (hR : 1 ≤ R.frames ∧ 8 + (nativeFrameWords "java/lang/System" "arraycopy" 5 + 11) ≤ R.locals) (hd : decode cc pc = .ok (.invokestatic index, 3))
    (hk : mmKS sh tg B b g aC p l e R s m args below meth c H0 D cl nL n0 z0 Qm (pc + 3) k) : mmKS sh tg B b g aC p l e R s m args below meth c H0 D cl nL n0 z0 Qm pc (oCpy sh wn k) := by
  intro ls st h H locs lsA hp hA
  match st, hp, hA with
  | ⟨t1, n⟩ :: ⟨t2, dp⟩ :: ⟨t3, x⟩ :: ⟨t4, sp⟩ :: ⟨t5, y⟩ :: r, hp, hA =>
    obtain ⟨ht, hp⟩ := mmG_iff.mp hp
    obtain ⟨h12, hp⟩ := mmG_iff.mp hp
    obtain ⟨⟨⟨h3, h4, h5⟩, ⟨h6, h7⟩⟩, hp2⟩ := mmD_iff.mp hp
    simp only [Bool.and_eq_true] at h12
    have h1 : (sh y).1 = 100 := mm_beq h12.1
    have h2 : (sh x).1 = 100 := mm_beq h12.2.1
    simp only [Bool.and_eq_true] at ht
    have e1 : t1 = 1 := mm_beq ht.1
    have e2 : t2 = 1 := mm_beq ht.2.1
    have e3 : t3 = 3 := mm_beq ht.2.2.1
    have e4 : t4 = 1 := mm_beq ht.2.2.2.1
    have e5 : t5 = 3 := mm_beq ht.2.2.2.2.1
    have hcat := mm_ble ht.2.2.2.2.2
    subst e1; subst e2; subst e3; subst e4; subst e5
    simp only [] at h1 h2 h3 h4 h5 h6 h7
    have hs := hA.okS
    have hoky := mm_head (mm_tail (mm_tail (mm_tail (mm_tail hs))))
    have hokx := mm_head (mm_tail (mm_tail hs))
    obtain ⟨g1, g2, g3⟩ := mm_pos (B := B) (b := b) (g := g) hs0 hoky h1 (by omega)
    obtain ⟨f1, f2, f3⟩ := mm_pos (B := B) (b := b) (g := g) hs0 hokx h2 (by omega)
    have hW := hA.wh
    obtain ⟨leny, conty⟩ := hW.2.2.2.2.2 y g1 g2
    obtain ⟨lenx, contx⟩ := hW.2.2.2.2.2 x f1 f2
    have hc0 := mm_arr (kd := 0) hW g1 g2 (by omega)
    have hc1 := mm_arr (kd := 0) hW f1 f2 (by omega)
    obtain ⟨-, k0, hk0, cm0, hkk0⟩ := (hK.2 0 _ hty).1 (sh y).2 (fun j : Nat => mmVal B b g (mmEt 0, h y j))
    obtain ⟨-, k1, hk1, cm1, hkk1⟩ := (hK.2 0 _ hty).1 (sh x).2 (fun j : Nat => mmVal B b g (mmEt 0, h x j))
    obtain ⟨a1, a2, a3⟩ := mm_z32 h3 (by omega)
    obtain ⟨b1, b2, b3⟩ := mm_z32 h4 (by omega)
    obtain ⟨d1, d2, d3⟩ := mm_z32 h5 (by omega)
    rw [List.map_cons, List.map_cons, List.map_cons, List.map_cons, List.map_cons, g3, f3]
    intro T hT X
    obtain ⟨vm', X', step⟩ := X.arraycopy hx hown hlink hnat hstat hini (src := B + y.toNat) (dst := B + x.toNat) (srcPos := Int32.ofInt sp) (destPos := Int32.ofInt dp) (n := Int32.ofInt n) (by rw [hT]; exact hc0) (by rw [hT]; exact hc1)
      (fun _ h => by cases h) (fun _ h => by cases h) (fun h => by cases h) (fun h => by cases h) hk0 hk1 hkk0 hkk1 (by rfl) a1 b1 d1
      (by rw [a2, d2, arrV_size]; omega) (by rw [b2, d2, arrV_size]; omega)
      (fun vm₁ _ i hi => by
        have e : (arrV (aC 0) (sh y).2 (fun j : Nat => mmVal B b g (mmEt 0, h y j))).slots.getD ((Int32.ofInt sp).toNatClampNeg + i) .null = .int (Int32.ofInt (h y (((Int32.ofInt sp).toNatClampNeg + i : Nat)))) := by
          rw [d3] at hi
          rw [Array.getD_eq_getD_getElem?, arrV_read _ _ (by rw [a3]; omega)]
          rfl
        exact ⟨by rw [e]; rfl, by rw [e]; exact trivial⟩)
      (g := F0 m pc lsA (mmVal B b g (1, n) :: mmVal B b g (1, dp) :: .ref (B + x.toNat) :: mmVal B b g (1, sp) :: .ref (B + y.toNat) :: r.map (mmVal B b g))) rfl (by rw [hml]; exact hA.1.1) (rest := r.map (mmVal B b g)) rfl (by rw [hb]; exact hd) hR.1 (by show 2 * 0 + _ + _ ≤ _; rw [mm_cat]; omega)
    have ec : copied (arrV (aC 0) (sh y).2 (fun j : Nat => mmVal B b g (mmEt 0, h y j))) (arrV (aC 0) (sh x).2 (fun j : Nat => mmVal B b g (mmEt 0, h x j))) (Int32.ofInt sp) (Int32.ofInt dp) (Int32.ofInt n) = arrV (aC 0) (sh x).2 (fun j : Nat => mmVal B b g (mmEt 0, va_cpy (fun j : Nat => h y j) (fun j : Nat => h x j) sp.toNat dp.toNat n.toNat j)) := by
      show (arrV _ _ _).storeRun (Int32.ofInt dp).toNatClampNeg ((arrV _ _ _).stretch (Int32.ofInt sp).toNatClampNeg (Int32.ofInt n).toNatClampNeg) = _
      rw [a3, b3, d3]
      exact va_copied (fun z => mmVal B b g (mmEt 0, z)) (aC 0) (aC 0) (fun j : Nat => h y j) (fun j : Nat => h x j) (by omega)
    rw [ec] at X' step
    have e0 : mmCpy h y sp x dp n 0 0 = h 0 0 := by unfold mmCpy; rw [if_neg (by omega)]
    have e1 : mmCpy h y sp x dp n 0 1 = h 0 1 := by unfold mmCpy; rw [if_neg (by omega)]
    have hfun : (fun j : Nat => mmVal B b g (mmEt 0, va_cpy (fun j : Nat => h y j) (fun j : Nat => h x j) sp.toNat dp.toNat n.toNat j)) = fun j : Nat => mmVal B b g (mmEt 0, mmCpy h y sp x dp n x j) := by
      funext j
      congr 2
      unfold va_cpy mmCpy
      rw [if_pos rfl]
      by_cases q : dp.toNat ≤ j ∧ j < dp.toNat + n.toNat
      · rw [if_pos q, if_pos (by omega)]
        have e : ((sp.toNat + (j - dp.toNat) : Nat) : Int) = sp + ((j : Int) - dp) := by omega
        show h y ((sp.toNat + (j - dp.toNat) : Nat) : Int) = _
        rw [e]
      · rw [if_neg q, if_neg (by omega)]
    rw [hfun] at X' step
    have hl : B + x.toNat < H.size := (Array.getElem?_eq_some_iff.mp hc1).1
    have hheap : ((T.setVm vm').setCell (B + x.toNat) (arrV (aC 0) (sh x).2 (fun j : Nat => mmVal B b g (mmEt 0, mmCpy h y sp x dp n x j)))).heap = H.setIfInBounds (B + x.toNat) (arrV (aC 0) (sh x).2 (fun j : Nat => mmVal B b g (mmEt 0, mmCpy h y sp x dp n x j))) := by rw [← hT]; rfl
    have oq : ∀ q : Nat, q ≠ B + x.toNat → (H.setIfInBounds (B + x.toNat) (arrV (aC 0) (sh x).2 (fun j : Nat => mmVal B b g (mmEt 0, mmCpy h y sp x dp n x j))))[q]? = H[q]? := fun q hq => by simp [Array.getElem?_setIfInBounds, Ne.symm hq]
    have hat : va_at D cl (B + x.toNat, mmE sh tg B b g aC x (mmCpy h y sp x dp n x)) (H.setIfInBounds (B + x.toNat) (arrV (aC 0) (sh x).2 (fun j : Nat => mmVal B b g (mmEt 0, mmCpy h y sp x dp n x j)))) := by
      rw [mmE_a (kd := 0) h2]
      show (H.setIfInBounds _ _)[B + x.toNat]? = some (vp_cell _ _)
      rw [mmAr_cell (b := b) (g := g)]
      simp [Array.getElem?_setIfInBounds, hl]
    have hWn : ∀ L2 : List Loc, (∀ q ∈ L2, q.base = B + x.toNat) → mmWH sh tg B b g aC D cl H0 (mmCpy h y sp x dp n) (H.setIfInBounds (B + x.toNat) (arrV (aC 0) (sh x).2 (fun j : Nat => mmVal B b g (mmEt 0, mmCpy h y sp x dp n x j)))) (locs ++ L2) := by
      intro L2 hL2
      obtain ⟨w1, w2, w3, w4, w5, w6⟩ := hW
      refine ⟨?_, by rw [e0]; simp [w2], ⟨by simp; exact w3.1, fun q q1 q2 => ?_, fun q hq => ?_⟩, by rw [e0]; exact w4, by rw [e1]; exact w5, fun a ha hlt => ?_⟩
      · rw [← mmWs_set sh tg B b g aC (h := h) (h' := mmCpy h y sp x dp n) f1 f2 e0 (fun j _ hj => by funext i; unfold mmCpy; rw [if_neg hj]) rfl]
        exact w1.set (mmWs_D sh tg B b g aC h) (mmWs_get sh tg B b g aC f1 f2) hat oq
      · rw [oq q (fun e => q2 (by rw [e]; show B + 1 ≤ B + x.toNat; omega))]
        exact w3.2.1 q q1 q2
      · rcases List.mem_append.mp hq with q1 | q1
        · exact w3.2.2 q q1
        · rw [hL2 q q1]
          show B + 1 ≤ B + x.toNat
          omega
      · rw [e0] at hlt ⊢
        obtain ⟨p1, p2⟩ := w6 a ha hlt
        refine ⟨p1, fun i hi => ?_⟩
        unfold mmCpy
        by_cases ea : a = x
        · rw [if_pos ea]
          subst ea
          by_cases q : dp ≤ (i : Int) ∧ (i : Int) < dp + n
          · rw [if_pos q]
            have := conty (sp + ((i : Int) - dp)).toNat (by omega)
            rw [mmTg_a (kd := 0) (by omega)] at this
            rw [mmTg_a (kd := 0) (by omega)]
            have e : (((sp + ((i : Int) - dp)).toNat : Nat) : Int) = sp + ((i : Int) - dp) := by omega
            rw [e] at this
            exact this
          · rw [if_neg q]
            exact p2 i hi
        · rw [if_neg ea]
          exact p2 i hi
    have hcnt := hA.2.2.2.2.2
    have hA2 : ∀ L2 : List Loc, (∀ q ∈ L2, q.base = B + x.toNat) → mmIn sh tg B b g aC R H0 D cl nL n0 z0 ls r (mmCpy h y sp x dp n) (H.setIfInBounds (B + x.toNat) (arrV (aC 0) (sh x).2 (fun j : Nat => mmVal B b g (mmEt 0, mmCpy h y sp x dp n x j)))) (locs ++ L2) lsA :=
      fun L2 hL2 => ⟨hA.1, hA.2.1, by rw [e0]; exact hA.2.2.1, by rw [e0]; exact mm_tail (mm_tail (mm_tail (mm_tail (mm_tail hs)))), hWn L2 hL2, by rw [e0]; exact hcnt.1, by rw [e1]; exact hcnt.2.1, by rw [e0]; exact hcnt.2.2.1, by rw [e1]; exact hcnt.2.2.2⟩
    have key := fun L2 hL2 => hk ls r _ _ (locs ++ L2) lsA hp2 (hA2 L2 hL2)
    rw [e0, e1] at key
    obtain ⟨t, q1, q2⟩ := key _ (fun q hq => by
      obtain ⟨z, -, hz⟩ := List.mem_map.mp hq
      rw [← hz]) _ hheap X'
    exact ⟨t, step t q1, q2⟩
end MR8
end
section
/-! ===== mm: which instructions are an op ===== -/
/-- a program's tables: (place of its own kind, number in the pool, ..): fields (kind, slot), methods (number, 0 object's, 1 static, 2 constructor), ints, longs, kinds made, Object's constructor, arraycopy, rows of objects, grids, the text -/
abbrev mmT : Type := List (Nat × Nat × Nat × Nat) × List (Nat × Nat × Nat × Nat) × List (Nat × Nat × Int) × List (Nat × Nat × Int) × List (Nat × Nat × Nat) × List (Nat × Nat) × List (Nat × Nat) × List (Nat × Nat) × List (Nat × Nat) × List (Nat × Nat)
def mmB1 (q : Bool) (c : Instr × Nat) : List (Instr × Nat) := bif q then [c] else []
theorem mmB1_in {q : Bool} {c z : Instr × Nat} (h : z ∈ mmB1 q c) : q = true ∧ z = c := by
  cases q with
  | false => cases h
  | true => exact ⟨rfl, List.mem_singleton.mp h⟩
def mmF4 (i : Nat) : Fin 4 := ⟨i % 4, Nat.mod_lt _ (by omega)⟩
theorem mmF4_v {i : Nat} (h : i < 4) : (mmF4 i).val = i := Nat.mod_eq_of_lt h
def mmCond : Nat → ClassFile.Cond
  | 0 => .eq
  | 1 => .ne
  | 2 => .lt
  | 3 => .ge
  | 4 => .gt
  | _ => .le
def mmI2i : Nat → Instr
  | 0 => .iadd
  | 1 => .isub
  | 2 => .imul
  | 3 => .iand
  | 4 => .ior
  | 5 => .ixor
  | 6 => .ishl
  | 7 => .ishr
  | _ => .iushr
def mmL2i' : Nat → Instr
  | 0 => .ladd
  | 1 => .lsub
  | 2 => .lmul
  | 3 => .land
  | 4 => .lor
  | _ => .lxor
def mmDvi : Nat → Instr
  | 0 => .idiv
  | 1 => .irem
  | 2 => .ldiv
  | _ => .lrem
def mmStki : Nat → Instr
  | 0 => .dup
  | 1 => .dup2
  | _ => .pop
def mmAldi : Nat → Instr
  | 0 => .iaload
  | 1 => .laload
  | 2 => .caload
  | 3 => .baload
  | _ => .aaload
def mmAsti : Nat → Instr
  | 0 => .iastore
  | 1 => .lastore
  | 2 => .castore
  | 3 => .bastore
  | _ => .aastore
def mmAty : Nat → ArrayType
  | 0 => .int
  | 1 => .long
  | 2 => .char
  | _ => .boolean
def mmR32 (x : Int) : Bool := decide (-2147483648 ≤ x ∧ x < 2147483648)
def mmR64 (x : Int) : Bool := decide (-9223372036854775808 ≤ x ∧ x < 9223372036854775808)
/-- is it a constructor; the script; the answer's tag; the slots that may be written once -/
def mmCand (tb : mmT) (fin : Nat → Nat → Bool) (ow : Nat) (isInit sc : Bool) (rt : Nat) (pcs : List Nat) (pc : Nat) (op : mmOp) : List (Instr × Nat) :=
  let a := op.2.1
  let x := op.2.2.headD 0
  let y := (op.2.2.getD 1 0).toNat
  let n := a.toNat
  let off : Int → Int := fun b => ((pcs.getD b.toNat 0 : Nat) : Int) - (pc : Int)
  match op.1 with
  | 0 => match n with
    | 1 => mmB1 (mmR32 x && decide (Int32.ofInt x = Int32.ofInt x)) (.iconst x, 1) ++ (mmB1 (mmR32 x && decide ((Int8.ofInt x).toInt32 = Int32.ofInt x)) (.bipush x, 2) ++ (mmB1 (mmR32 x && decide ((Int16.ofInt x).toInt32 = Int32.ofInt x)) (.sipush x, 3) ++ (mmB1 (mmR32 x && decide ((ow, y, x) ∈ tb.2.2.1)) (.ldc y, 2) ++ mmB1 (mmR32 x && decide ((ow, y, x) ∈ tb.2.2.1)) (.ldc_w y, 3))))
    | 2 => mmB1 (decide (x = 0)) (.lconst 0, 1) ++ (mmB1 (decide (x = 1)) (.lconst 1, 1) ++ mmB1 (mmR64 x && decide ((ow, y, x) ∈ tb.2.2.2.1)) (.ldc2_w y, 3))
    | 5 => mmB1 (decide (x = 0) && decide ((ow, y) ∈ tb.2.2.2.2.2.2.2.2.2)) (.ldc y, 2)
    | _ => []
  | 1 => match x.toNat with
    | 1 => mmB1 (Nat.blt n 4) (.iload_n (mmF4 n), 1) ++ [(.iload n, 2)]
    | 2 => mmB1 (Nat.blt n 4) (.lload_n (mmF4 n), 1) ++ [(.lload n, 2)]
    | 3 => mmB1 (Nat.blt n 4) (.aload_n (mmF4 n), 1) ++ [(.aload n, 2)]
    | 4 => mmB1 (Nat.blt n 4) (.aload_n (mmF4 n), 1) ++ [(.aload n, 2)]
    | _ => []
  | 2 => match x.toNat with
    | 1 => mmB1 (Nat.blt n 4) (.istore_n (mmF4 n), 1) ++ [(.istore n, 2)]
    | 2 => mmB1 (Nat.blt n 4) (.lstore_n (mmF4 n), 1) ++ [(.lstore n, 2)]
    | 3 => mmB1 (Nat.blt n 4) (.astore_n (mmF4 n), 1) ++ [(.astore n, 2)]
    | _ => []
  | 3 => [(.iinc n x, 3)]
  | 4 => mmB1 (Nat.blt n 9) (mmI2i n, 1)
  | 5 => mmB1 (Nat.blt n 6) (mmL2i' n, 1)
  | 6 => mmB1 (Nat.blt n 4) (mmDvi n, 1)
  | 7 => match n with
    | 0 => [(.i2l, 1)]
    | 1 => [(.l2i, 1)]
    | _ => []
  | 8 => [(.lcmp, 1)]
  | 9 => mmB1 (Nat.blt n 3) (mmStki n, 1)
  | 10 => mmB1 (decide ((ow, y, n, x.toNat) ∈ tb.1)) (.getfield y, 3)
  | 11 => mmB1 (decide ((ow, y, n, x.toNat) ∈ tb.1) && (!fin n x.toNat || (isInit && Nat.beq ow n))) (.putfield y, 3)
  | 12 => mmB1 (Nat.blt n 6) (mmAldi n, 1)
  | 13 => mmB1 (Nat.blt n 6 && !Nat.beq n 4) (mmAsti n, 1)
  | 14 => [(.arraylength, 1)]
  | 15 => mmB1 (Nat.blt n 6) (.ifCond (mmCond n) (off x), 3)
  | 16 => mmB1 (Nat.blt n 6) (.if_icmp (mmCond n) (off x), 3)
  | 17 => [(.goto (off a), 3)]
  | 20 => mmB1 (Nat.beq n rt && Nat.blt n 5) (match n with
    | 0 => (.return_, 1)
    | 2 => (.lreturn, 1)
    | 3 => (.areturn, 1)
    | _ => (.ireturn, 1))
  | 21 => match x.toNat with
    | 0 => mmB1 (decide ((ow, y, n, 0) ∈ tb.2.1)) (.invokevirtual y, 3)
    | 1 => mmB1 (decide ((ow, y, n, 1) ∈ tb.2.1)) (.invokestatic y, 3)
    | 2 => mmB1 (decide ((ow, y, n, 2) ∈ tb.2.1)) (.invokespecial y, 3)
    | _ => []
  | 22 => mmB1 (decide ((ow, y, n) ∈ tb.2.2.2.2.1)) (.new y, 3)
  | 23 => match n with
    | 5 => mmB1 (decide ((ow, y) ∈ tb.2.2.2.2.2.2.2.1)) (.anewarray y, 3)
    | _ => mmB1 (Nat.blt n 4) (.newarray (mmAty n), 2)
  | 24 => mmB1 (decide ((ow, y) ∈ tb.2.2.2.2.2.2.2.2.1)) (.multianewarray y 2, 4)
  | 25 => mmB1 (decide ((ow, y) ∈ tb.2.2.2.2.2.2.1)) (.invokestatic y, 3)
  | 26 => mmB1 (decide ((ow, y) ∈ tb.2.2.2.2.2.1)) (.invokespecial y, 3)
  | 27 => mmB1 sc (.iaload, 1)
  | 28 => mmB1 sc (.arraylength, 1)
  | 29 => mmB1 (decide ((ow, 100000 + y) ∈ tb.2.2.2.2.2.2.2.2.2)) (.invokevirtual y, 3)
  | 30 => mmB1 (decide ((ow, 200000 + y) ∈ tb.2.2.2.2.2.2.2.2.2)) (.invokevirtual y, 3)
  | 31 => mmB1 (Nat.blt n 5 && decide ((ow, 300000 + 10000 * n + y) ∈ tb.2.2.2.2.2.2.2.2.2)) (.invokestatic y, 3)
  | _ => []
def mmLck (off : Int → Int) : List (Int × Int) → List Int → Bool
  | [], [] => true
  | q :: ps, k :: t :: r => decide (k = q.1) && (decide (off t = q.2) && mmLck off ps r)
  | _, _ => false
/-- switches: they have a length of their own -/
def mmSw (pcs : List Nat) (pc : Nat) (op : mmOp) (i : Instr) : Bool :=
  let off : Int → Int := fun b => ((pcs.getD b.toNat 0 : Nat) : Int) - (pc : Int)
  match op.1, op.2.2, i with
  | 18, d :: ts, .tableswitch dd lo hi offs => decide (dd = off d) && (decide (lo = op.2.1) && (decide (hi = op.2.1 + (ts.length : Int) - 1) && decide (offs = (ts.map off).toArray)))
  | 19, d :: ts, .lookupswitch dd ps => decide (dd = off d) && ((ps.toList.zip (ps.toList.drop 1)).all (fun (a, next) => decide (a.1 < next.1)) && mmLck off ps.toList ts)
  | _, _, _ => false
def mmEnds (op : mmOp) : Bool := Nat.beq op.1 17 || Nat.beq op.1 20
def mmChkB (tb : mmT) (fin : Nat → Nat → Bool) (ow : Nat) (isInit sc : Bool) (rt : Nat) (cc : ByteArray) (pcs : List Nat) : Nat → List mmOp → Bool
  | _, [] => false
  | pc, op :: ops => (Nat.beq op.1 17 && (decide (op.2.2 = []) && decide (pcs[op.2.1.toNat]? = some pc))) ||
    match decode cc pc with
    | .ok q => ((mmCand tb fin ow isInit sc rt pcs pc op).any (fun z => decide (q = z)) && (mmEnds op || mmChkB tb fin ow isInit sc rt cc pcs (pc + q.2) ops)) || mmSw pcs pc op q.1
    | _ => false
def mmChk (tb : mmT) (fin : Nat → Nat → Bool) (ow : Nat) (isInit sc : Bool) (rt : Nat) (cc : ByteArray) (pcs : List Nat) (blks : List (List mmOp)) : Bool :=
  decide (pcs[0]? = some 0) && (decide (pcs.length = blks.length) && (List.range pcs.length).all (fun b => mmChkB tb fin ow isInit sc rt cc pcs (pcs.getD b 0) (blks.getD b [])))
end
section
/-! ===== mm: a checked op is sound ===== -/
/-- what the tables' words say -/
def mmFT (sh : Int → Nat × Nat) (tg : Nat → Nat → Nat) (tb : mmT) (fin : Nat → Nat → Bool) (onm : Nat → String) (cl : List vw_C) (mp : Nat → mmM) (yM : Nat → MethodName) (bM : Nat → ByteArray) (lM : Nat → Nat) (rM : Nat → Option FieldType) (TW : List Cond) : Prop :=
  (∀ w ∈ TW, goodWord w = true) ∧
  (∀ ci C T N, cl[ci]? = some (C, T, N) → onm ci = C ∧ (∀ w ∈ u_ws C T N, w ∈ TW) ∧ (∀ x, (sh x).1 = ci → (sh x).2 = N) ∧ (∃ ty : Nat → FieldType, (∀ k, k < N → parseFieldDescriptor (T k).2.2.1 = some (ty k)) ∧ ∀ f, f < N → tg ci f = mmTy (ty f) ∧ tg ci f ≠ 0) ∧ (∀ a, a < N → ∀ b, b < N → a ≠ b → (T a).2.1 ≠ (T b).2.1)) ∧
  (∀ ow idx ci f, (ow, idx, ci, f) ∈ tb.1 → ∃ C T N, cl[ci]? = some (C, T, N) ∧ ci < 99 ∧ f < N ∧ Cond.fieldLink (onm ow) idx (T f).1 (T f).2.1 (T f).2.2.1 ∈ TW ∧ (T f).2.2.2 = fin ci f ∧ (T f).1 = C) ∧
  (∀ ow idx mi kd, (ow, idx, mi, kd) ∈ tb.2.1 → Cond.methodLink (onm ow) idx (yM mi) ∈ TW ∧ Cond.code (yM mi) (bM mi) (lM mi) (rM mi) ∈ TW ∧ Cond.initialized (yM mi).cls ∈ TW ∧ ((yM mi).cls ≠ "java/lang/invoke/MethodHandle" ∧ (yM mi).cls ≠ "java/lang/invoke/VarHandle") ∧ ((mp mi).2.1 = 0 ∨ mmRt (mp mi).2.1 ≠ 0) ∧
    ((kd = 1 ∧ (mp mi).2.2.1 = 99 ∧ Cond.static (yM mi) ∈ TW ∧ (parseMethodDescriptor (yM mi).desc).map (fun d => d.parameters.length) = some (mp mi).1.length) ∨
     ((kd = 0 ∨ kd = 2) ∧ (mp mi).2.2.1 < 99 ∧ (∃ T N, cl[(mp mi).2.2.1]? = some ((yM mi).cls, T, N)) ∧ (∃ ts, (mp mi).1.reverse = 3 :: ts ∧ (parseMethodDescriptor (yM mi).desc).map (fun d => d.parameters.length) = some ts.length) ∧ Cond.instanceMethod (yM mi) ∈ TW ∧ (kd = 0 → Cond.selects (yM mi).cls (yM mi) (yM mi) ∈ TW) ∧ (kd = 2 → (yM mi).name = "<init>" ∧ rM mi = none)))) ∧
  (∀ ow idx x, (ow, idx, x) ∈ tb.2.2.1 → Jvm.Cond.constant (onm ow) idx (Int32.ofInt x) ∈ TW) ∧
  (∀ ow idx x, (ow, idx, x) ∈ tb.2.2.2.1 → Jvm.Cond.constantLong (onm ow) idx (Int64.ofInt x) ∈ TW) ∧
  (∀ ow idx ci, (ow, idx, ci) ∈ tb.2.2.2.2.1 → ∃ C T N, cl[ci]? = some (C, T, N) ∧ ci < 99 ∧ Cond.classLink (onm ow) idx C ∈ TW ∧ Cond.instantiable C N ∈ TW ∧ Cond.initialized C ∈ TW) ∧
  (∀ ow idx, (ow, idx) ∈ tb.2.2.2.2.2.1 → Cond.methodLink (onm ow) idx Lib.objectInit ∈ TW ∧ Cond.instanceMethod Lib.objectInit ∈ TW ∧ Cond.code Lib.objectInit ⟨#[0xb1]⟩ 1 none ∈ TW) ∧
  (∀ ow idx, (ow, idx) ∈ tb.2.2.2.2.2.2.1 → Cond.methodLink (onm ow) idx arraycopyName ∈ TW ∧ Cond.native arraycopyName ∈ TW ∧ Cond.static arraycopyName ∈ TW ∧ Cond.initialized "java/lang/System" ∈ TW) ∧
  (∀ ow idx, (ow, idx) ∈ tb.2.2.2.2.2.2.2.1 → Cond.classLink (onm ow) idx "TileHeel$Roofs" ∈ TW) ∧
  (∀ kd, kd < 4 → Cond.arrayClass (mmKt kd) ∈ TW) ∧ (sh 0).1 = 99 ∧ (∃ T N, cl[4]? = some ("TileHeel$Roofs", T, N))
section MS1
variable {sh : Int → Nat × Nat} {tg : Nat → Nat → Nat} {B b g : Nat} {aC : Nat → ClassId} {p : Program} {l : Launch} {e : Env} {R : Room} {s : State} {m : MethodId} {args : Array Value} {below : List Frame} {meth : Method} {c : Code} {H0 : Heap} {D : va_G} {cl : List vw_C} {nL n0 z0 : Nat} {Qm : State → Prop}
variable {cc : ByteArray} {tys : List (ClassId × FieldType)} {wn : Int → Bool} {tb : mmT} {fin : Nat → Nat → Bool} {onm : Nat → String} {mp : Nat → mmM} {yM : Nat → MethodName} {bM : Nat → ByteArray} {lM : Nat → Nat} {rM : Nat → Option FieldType} {TW Ts : List Cond}
variable {K : Nat → List Int → mmH → (Int → mmH → Prop) → Prop} {Q : Int → mmH → Prop} {X : Nat → mmKont} {mc ms L : Int} {xs : Int → Int} {tx : List Int} {k : mmKont}
/-- the method at hand: the machine, its words, the numbers of rows -/
def mmCx (nm : String) (sc : Bool) (ow rt : Nat) (aC : Nat → ClassId) (p : Program) (l : Launch) (R : Room) (s : State) (m : MethodId) (args : Array Value) (meth : Method) (c : Code) (D : va_G) (cl : List vw_C) (nL B b : Nat) (cc : ByteArray) (tys : List (ClassId × FieldType)) (onm : Nat → String) (TW Ts : List Cond) (mc ms L : Int) (xs : Int → Int) (H0 : Heap) (sh : Int → Nat × Nat) : Prop :=
  p.tables.exec = Jvm.exec ∧ c.code = cc ∧ c.maxLocals = nL ∧ s.vm.findClass (onm ow) = some m.cls ∧ (∀ w ∈ Ts, w.before args s = true) ∧ (∀ w ∈ TW, w ∈ Ts) ∧ mmKA D cl tys s ∧ (∀ kd, kd < 6 → tys[kd]? = some (aC kd, mmKt kd)) ∧ mc = (R.cells : Int) ∧ ms = (R.slots : Int) ∧ (1 ≤ R.frames ∧ 8 + (nativeFrameWords "java/lang/System" "arraycopy" 5 + 11) ≤ R.locals ∧ 20 ≤ R.locals) ∧
  meth.name = nm ∧ (sc = true → ∃ (Ln : Nat) (xs' : Nat → Int32), va_X b Ln xs' s H0 ∧ b < H0.size ∧ b ≤ B ∧ L = (Ln : Int) ∧ Ln < 2147483648 ∧ ∀ j : Nat, j < Ln → xs j = (xs' j).toInt) ∧ (∀ x, (sh x).1 < 106)
theorem mm_good (hG : ∀ w ∈ TW, goodWord w = true) (hT : ∀ w ∈ TW, w ∈ Ts) {x : Cond} (hx : x ∈ TW) : GoodIn Ts (x :: TW) := fun w hw => by
  rcases List.mem_cons.mp hw with q | q
  · rw [q]; exact ⟨hT x hx, good_of_word (hG x hx)⟩
  · exact ⟨hT w q, good_of_word (hG w q)⟩
theorem mm_ty : ∀ kd : Nat, kd < 4 → newarray.typeOf (mmAty kd) = mmKt kd
  | 0, _ => rfl
  | 1, _ => rfl
  | 2, _ => rfl
  | 3, _ => rfl
set_option maxHeartbeats 4000000 in
theorem ks_op {ow rt pc : Nat} {isInit sc : Bool} {nm : String} {pcs : List Nat} {op : mmOp} {q : Instr × Nat} {rmM : Nat → Room} (hF : mmFT sh tg tb fin onm cl mp yM bM lM rM TW) (hC : mmCx nm sc ow rt aC p l R s m args meth c D cl nL B b cc tys onm TW Ts mc ms L xs H0 sh) (hinit : isInit = true → nm = "<init>")
    (hKs : ∀ mi as h Qc, K mi as h Qc → mmMet sh tg B b g aC D cl tys l (yM mi) (.code (yM mi) (bM mi) (lM mi) (rM mi) :: TW) (rmM mi) (mp mi).1.reverse (mp mi).2.1 (mp mi).2.2.2.1 (mp mi).2.2.2.2.1 as h Qc)
    (hroom : ∀ mi, (rmM mi).cells = (mp mi).2.2.2.1 ∧ (rmM mi).slots = (mp mi).2.2.2.2.1 ∧ (rmM mi).frames + 1 ≤ R.frames ∧ 8 + (lM mi + 11) + (rmM mi).locals ≤ R.locals)
    (hret : ∀ (pc' : Nat), (rt = 0 ∧ decode cc pc' = .ok (.return_, 1)) ∨ (rt = 1 ∧ decode cc pc' = .ok (.ireturn, 1)) ∨ (rt = 2 ∧ decode cc pc' = .ok (.lreturn, 1)) ∨ (rt = 3 ∧ decode cc pc' = .ok (.areturn, 1)) ∨ (rt = 4 ∧ decode cc pc' = .ok (.ireturn, 1)) → mmKS sh tg B b g aC p l e R s m args below meth c H0 D cl nL n0 z0 Qm pc' (oRet Q rt))
    (htext : ∀ (pc' idx : Nat) (k' : mmKont), ((ow, idx) ∈ tb.2.2.2.2.2.2.2.2.2 → decode cc pc' = .ok (.ldc idx, 2) → mmKS sh tg B b g aC p l e R s m args below meth c H0 D cl nL n0 z0 Qm (pc' + 2) k' → mmKS sh tg B b g aC p l e R s m args below meth c H0 D cl nL n0 z0 Qm pc' (oPush 5 0 k')) ∧ ((ow, 100000 + idx) ∈ tb.2.2.2.2.2.2.2.2.2 → decode cc pc' = .ok (.invokevirtual idx, 3) → mmKS sh tg B b g aC p l e R s m args below meth c H0 D cl nL n0 z0 Qm (pc' + 3) k' → mmKS sh tg B b g aC p l e R s m args below meth c H0 D cl nL n0 z0 Qm pc' (oTlen tx k')) ∧ ((ow, 200000 + idx) ∈ tb.2.2.2.2.2.2.2.2.2 → decode cc pc' = .ok (.invokevirtual idx, 3) → mmKS sh tg B b g aC p l e R s m args below meth c H0 D cl nL n0 z0 Qm (pc' + 3) k' → mmKS sh tg B b g aC p l e R s m args below meth c H0 D cl nL n0 z0 Qm pc' (oTat tx k')) ∧ ∀ f : Nat, f < 5 → (ow, 300000 + 10000 * f + idx) ∈ tb.2.2.2.2.2.2.2.2.2 → decode cc pc' = .ok (.invokestatic idx, 3) → mmKS sh tg B b g aC p l e R s m args below meth c H0 D cl nL n0 z0 Qm (pc' + 3) k' → mmKS sh tg B b g aC p l e R s m args below meth c H0 D cl nL n0 z0 Qm pc' (oMath f k'))
    (hgrid : ∀ (pc' idx : Nat) (k' : mmKont), (ow, idx) ∈ tb.2.2.2.2.2.2.2.2.1 → decode cc pc' = .ok (.multianewarray idx 2, 4) → mmKS sh tg B b g aC p l e R s m args below meth c H0 D cl nL n0 z0 Qm (pc' + 4) k' → mmKS sh tg B b g aC p l e R s m args below meth c H0 D cl nL n0 z0 Qm pc' (oNewM sh n0 z0 mc ms k'))
    (hX : ∀ bl : Nat, mmKS sh tg B b g aC p l e R s m args below meth c H0 D cl nL n0 z0 Qm (pcs.getD bl 0) (X bl)) (hd : decode cc pc = .ok q) (hq : q ∈ mmCand tb fin ow isInit sc rt pcs pc op) (hk : mmEnds op = false → mmKS sh tg B b g aC p l e R s m args below meth c H0 D cl nL n0 z0 Qm (pc + q.2) k) :
    mmKS sh tg B b g aC p l e R s m args below meth c H0 D cl nL n0 z0 Qm pc (mmStep sh tg (fun _ _ => none) wn mp K Q X n0 z0 mc ms L xs tx op.1 op.2.1 op.2.2 k) := by
  obtain ⟨F1, F2, F3, F4, F5, F6, F7, F8, F9, F10, F11, F12, F13⟩ := hF
  obtain ⟨hx, hb, hml, hown, hts, hTW, hKA, htys, hmc, hms, ⟨hR1, hR2, hR3⟩, hnm, hsc, hsh6⟩ := hC
  have hKx := hKA.1
  have tw : ∀ w ∈ TW, w.before args s = true := fun w hw => hts w (hTW w hw)
  obtain ⟨o, a, li⟩ := op
  simp only [] at *
  match o, hq, hk with
  | 0, hq, hk =>
    have hk := hk rfl
    show mmKS sh tg B b g aC p l e R s m args below meth c H0 D cl nL n0 z0 Qm pc (oPush a.toNat (li.headD 0) k)
    simp only [mmCand] at hq
    generalize hn : a.toNat = n at hq ⊢
    match n, hq with
    | 1, hq =>
      simp only [List.mem_append] at hq
      rcases hq with hq | hq | hq | hq | hq
      · obtain ⟨q1, rfl⟩ := mmB1_in hq
        simp only [Bool.and_eq_true, mmR32, decide_eq_true_eq] at q1
        exact ks_push1 hx hb q1.1 (Or.inl ⟨hd, rfl, rfl⟩) hk
      · obtain ⟨q1, rfl⟩ := mmB1_in hq
        simp only [Bool.and_eq_true, mmR32, decide_eq_true_eq] at q1
        exact ks_push1 hx hb q1.1 (Or.inr (Or.inl ⟨hd, rfl, q1.2⟩)) hk
      · obtain ⟨q1, rfl⟩ := mmB1_in hq
        simp only [Bool.and_eq_true, mmR32, decide_eq_true_eq] at q1
        exact ks_push1 hx hb q1.1 (Or.inr (Or.inr ⟨hd, rfl, q1.2⟩)) hk
      · obtain ⟨q1, rfl⟩ := mmB1_in hq
        simp only [Bool.and_eq_true, mmR32, decide_eq_true_eq] at q1
        exact ks_ldc hx hb q1.1 hown (tw _ (F5 _ _ _ q1.2)) hd hk
      · obtain ⟨q1, rfl⟩ := mmB1_in hq
        simp only [Bool.and_eq_true, mmR32, decide_eq_true_eq] at q1
        exact ks_ldcw hx hb q1.1 hown (tw _ (F5 _ _ _ q1.2)) hd hk
    | 2, hq =>
      simp only [List.mem_append] at hq
      rcases hq with hq | hq | hq
      · obtain ⟨q1, rfl⟩ := mmB1_in hq
        exact ks_lconst hx hb (i := 0) (of_decide_eq_true q1) hd hk
      · obtain ⟨q1, rfl⟩ := mmB1_in hq
        exact ks_lconst hx hb (i := 1) (of_decide_eq_true q1) hd hk
      · obtain ⟨q1, rfl⟩ := mmB1_in hq
        simp only [Bool.and_eq_true, mmR64, decide_eq_true_eq] at q1
        exact ks_ldc2 hx hb q1.1 hown (tw _ (F6 _ _ _ q1.2)) hd hk
    | 5, hq =>
      obtain ⟨q1, rfl⟩ := mmB1_in hq
      simp only [Bool.and_eq_true, decide_eq_true_eq] at q1
      rw [q1.1]
      exact (htext _ _ _).1 q1.2 hd hk
    | 0, hq => cases hq
    | 3, hq => cases hq
    | 4, hq => cases hq
    | n + 6, hq => cases hq
  | 1, hq, hk =>
    have hk := hk rfl
    show mmKS sh tg B b g aC p l e R s m args below meth c H0 D cl nL n0 z0 Qm pc (oLoad a.toNat (li.headD 0).toNat k)
    simp only [mmCand] at hq
    generalize hn : (li.headD 0).toNat = t at hq ⊢
    match t, hq with
    | 1, hq =>
      rcases List.mem_append.mp hq with hq | hq
      · obtain ⟨q1, rfl⟩ := mmB1_in hq
        exact ks_load hx hb (Or.inl ⟨rfl, Or.inl ⟨_, hd, mmF4_v (mm_blt q1), rfl⟩⟩) hk
      · obtain rfl := List.mem_singleton.mp hq
        exact ks_load hx hb (Or.inl ⟨rfl, Or.inr ⟨hd, rfl⟩⟩) hk
    | 2, hq =>
      rcases List.mem_append.mp hq with hq | hq
      · obtain ⟨q1, rfl⟩ := mmB1_in hq
        exact ks_load hx hb (Or.inr ⟨rfl, Or.inl ⟨_, hd, mmF4_v (mm_blt q1), rfl⟩⟩) hk
      · obtain rfl := List.mem_singleton.mp hq
        exact ks_load hx hb (Or.inr ⟨rfl, Or.inr ⟨hd, rfl⟩⟩) hk
    | 3, hq =>
      rcases List.mem_append.mp hq with hq | hq
      · obtain ⟨q1, rfl⟩ := mmB1_in hq
        exact ks_aload hx hb (Or.inl rfl) (Or.inl ⟨_, hd, mmF4_v (mm_blt q1), rfl⟩) hk
      · obtain rfl := List.mem_singleton.mp hq
        exact ks_aload hx hb (Or.inl rfl) (Or.inr ⟨hd, rfl⟩) hk
    | 4, hq =>
      rcases List.mem_append.mp hq with hq | hq
      · obtain ⟨q1, rfl⟩ := mmB1_in hq
        exact ks_aload hx hb (Or.inr (Or.inl rfl)) (Or.inl ⟨_, hd, mmF4_v (mm_blt q1), rfl⟩) hk
      · obtain rfl := List.mem_singleton.mp hq
        exact ks_aload hx hb (Or.inr (Or.inl rfl)) (Or.inr ⟨hd, rfl⟩) hk
    | 0, hq => cases hq
    | n + 5, hq => cases hq
  | 2, hq, hk =>
    have hk := hk rfl
    show mmKS sh tg B b g aC p l e R s m args below meth c H0 D cl nL n0 z0 Qm pc (oStore a.toNat (li.headD 0).toNat k)
    simp only [mmCand] at hq
    generalize hn : (li.headD 0).toNat = t at hq ⊢
    match t, hq with
    | 1, hq =>
      rcases List.mem_append.mp hq with hq | hq
      · obtain ⟨q1, rfl⟩ := mmB1_in hq
        exact ks_istore hx hb (Or.inl ⟨_, hd, mmF4_v (mm_blt q1), rfl⟩) hk
      · obtain rfl := List.mem_singleton.mp hq
        exact ks_istore hx hb (Or.inr ⟨hd, rfl⟩) hk
    | 2, hq =>
      rcases List.mem_append.mp hq with hq | hq
      · obtain ⟨q1, rfl⟩ := mmB1_in hq
        exact ks_lstore hx hb (Or.inl ⟨_, hd, mmF4_v (mm_blt q1), rfl⟩) hk
      · obtain rfl := List.mem_singleton.mp hq
        exact ks_lstore hx hb (Or.inr ⟨hd, rfl⟩) hk
    | 3, hq =>
      rcases List.mem_append.mp hq with hq | hq
      · obtain ⟨q1, rfl⟩ := mmB1_in hq
        exact ks_astore hx hb (Or.inl ⟨_, hd, mmF4_v (mm_blt q1), rfl⟩) hk
      · obtain rfl := List.mem_singleton.mp hq
        exact ks_astore hx hb (Or.inr ⟨hd, rfl⟩) hk
    | 0, hq => cases hq
    | n + 4, hq => cases hq
  | 3, hq, hk =>
    obtain rfl := List.mem_singleton.mp hq
    exact ks_iinc hx hb hd (hk rfl)
  | 4, hq, hk =>
    have hk := hk rfl
    show mmKS sh tg B b g aC p l e R s m args below meth c H0 D cl nL n0 z0 Qm pc (oI2 a.toNat k)
    simp only [mmCand] at hq
    obtain ⟨q1, rfl⟩ := mmB1_in hq
    have q2 := mm_blt q1
    generalize hn : a.toNat = n at q2 hd hk ⊢
    match n, q2, hd, hk with
    | 0, _, hd, hk => exact ks_int hx hb (Or.inl ⟨rfl, hd⟩) hk
    | 1, _, hd, hk => exact ks_int hx hb (Or.inr (Or.inl ⟨rfl, hd⟩)) hk
    | 2, _, hd, hk => exact ks_int hx hb (Or.inr (Or.inr (Or.inl ⟨rfl, hd⟩))) hk
    | 3, _, hd, hk => exact ks_int hx hb (Or.inr (Or.inr (Or.inr (Or.inl ⟨rfl, hd⟩)))) hk
    | 4, _, hd, hk => exact ks_int hx hb (Or.inr (Or.inr (Or.inr (Or.inr (Or.inl ⟨rfl, hd⟩))))) hk
    | 5, _, hd, hk => exact ks_int hx hb (Or.inr (Or.inr (Or.inr (Or.inr (Or.inr (Or.inl ⟨rfl, hd⟩)))))) hk
    | 6, _, hd, hk => exact ks_int hx hb (Or.inr (Or.inr (Or.inr (Or.inr (Or.inr (Or.inr (Or.inl ⟨rfl, hd⟩))))))) hk
    | 7, _, hd, hk => exact ks_int hx hb (Or.inr (Or.inr (Or.inr (Or.inr (Or.inr (Or.inr (Or.inr (Or.inl ⟨rfl, hd⟩)))))))) hk
    | 8, _, hd, hk => exact ks_int hx hb (Or.inr (Or.inr (Or.inr (Or.inr (Or.inr (Or.inr (Or.inr (Or.inr ⟨rfl, hd⟩)))))))) hk
  | 5, hq, hk =>
    have hk := hk rfl
    show mmKS sh tg B b g aC p l e R s m args below meth c H0 D cl nL n0 z0 Qm pc (oL2 a.toNat k)
    simp only [mmCand] at hq
    obtain ⟨q1, rfl⟩ := mmB1_in hq
    have q2 := mm_blt q1
    generalize hn : a.toNat = n at q2 hd hk ⊢
    match n, q2, hd, hk with
    | 0, _, hd, hk => exact ks_long hx hb (Or.inl ⟨rfl, hd⟩) hk
    | 1, _, hd, hk => exact ks_long hx hb (Or.inr (Or.inl ⟨rfl, hd⟩)) hk
    | 2, _, hd, hk => exact ks_long hx hb (Or.inr (Or.inr (Or.inl ⟨rfl, hd⟩))) hk
    | 3, _, hd, hk => exact ks_long hx hb (Or.inr (Or.inr (Or.inr (Or.inl ⟨rfl, hd⟩)))) hk
    | 4, _, hd, hk => exact ks_long hx hb (Or.inr (Or.inr (Or.inr (Or.inr (Or.inl ⟨rfl, hd⟩))))) hk
    | 5, _, hd, hk => exact ks_long hx hb (Or.inr (Or.inr (Or.inr (Or.inr (Or.inr ⟨rfl, hd⟩))))) hk
  | 6, hq, hk =>
    have hk := hk rfl
    show mmKS sh tg B b g aC p l e R s m args below meth c H0 D cl nL n0 z0 Qm pc (oDv a.toNat k)
    simp only [mmCand] at hq
    obtain ⟨q1, rfl⟩ := mmB1_in hq
    have q2 := mm_blt q1
    generalize hn : a.toNat = n at q2 hd hk ⊢
    match n, q2, hd, hk with
    | 0, _, hd, hk => exact ks_div hx hb (Or.inl ⟨rfl, hd⟩) hk
    | 1, _, hd, hk => exact ks_div hx hb (Or.inr (Or.inl ⟨rfl, hd⟩)) hk
    | 2, _, hd, hk => exact ks_div hx hb (Or.inr (Or.inr (Or.inl ⟨rfl, hd⟩))) hk
    | 3, _, hd, hk => exact ks_div hx hb (Or.inr (Or.inr (Or.inr ⟨rfl, hd⟩))) hk
  | 7, hq, hk =>
    have hk := hk rfl
    show mmKS sh tg B b g aC p l e R s m args below meth c H0 D cl nL n0 z0 Qm pc (oCv a.toNat k)
    simp only [mmCand] at hq
    generalize hn : a.toNat = n at hq ⊢
    match n, hq with
    | 0, hq =>
      obtain rfl := List.mem_singleton.mp hq
      exact ks_cv hx hb (Or.inl ⟨rfl, hd⟩) hk
    | 1, hq =>
      obtain rfl := List.mem_singleton.mp hq
      exact ks_cv hx hb (Or.inr ⟨rfl, hd⟩) hk
    | n + 2, hq => cases hq
  | 8, hq, hk =>
    obtain rfl := List.mem_singleton.mp hq
    exact ks_lcmp hx hb hd (hk rfl)
  | 9, hq, hk =>
    have hk := hk rfl
    show mmKS sh tg B b g aC p l e R s m args below meth c H0 D cl nL n0 z0 Qm pc (oStk a.toNat k)
    simp only [mmCand] at hq
    obtain ⟨q1, rfl⟩ := mmB1_in hq
    have q2 := mm_blt q1
    generalize hn : a.toNat = n at q2 hd hk ⊢
    match n, q2, hd, hk with
    | 0, _, hd, hk => exact ks_stk hx hb (Or.inl ⟨rfl, hd⟩) hk
    | 1, _, hd, hk => exact ks_stk hx hb (Or.inr (Or.inl ⟨rfl, hd⟩)) hk
    | 2, _, hd, hk => exact ks_stk hx hb (Or.inr (Or.inr ⟨rfl, hd⟩)) hk
  | 10, hq, hk =>
    obtain ⟨q1, rfl⟩ := mmB1_in hq
    obtain ⟨C, T, N, f1, f2, f3, f4, f5, f6⟩ := F3 _ _ _ _ (of_decide_eq_true q1)
    obtain ⟨e1, e2, e3, e4, e5⟩ := F2 _ _ _ _ f1
    exact ks_get hx hb hts (fun w hw => hTW w (e2 w hw)) hown hKx f1 f2 e3 F12 f3 (tw _ f4) hd (hk rfl)
  | 11, hq, hk =>
    obtain ⟨q1, rfl⟩ := mmB1_in hq
    simp only [Bool.and_eq_true, decide_eq_true_eq, Bool.or_eq_true, Bool.not_eq_true'] at q1
    obtain ⟨q1, q2⟩ := q1
    obtain ⟨C, T, N, f1, f2, f3, f4, f5, f6⟩ := F3 _ _ _ _ q1
    obtain ⟨e1, e2, e3, ⟨ty, e4, e4'⟩, e5⟩ := F2 _ _ _ _ f1
    refine ks_put hx hb hts (fun w hw => hTW w (e2 w hw)) ty e4 e5 hown hKx f1 f2 e3 F12 f3 (e4' _ f3).1 (e4' _ f3).2 (tw _ f4) (fun z => ?_) hd (hk rfl)
    rw [f5] at z
    rcases q2 with q2 | q2
    · rw [q2] at z; cases z
    · refine ⟨hnm.trans (hinit q2.1), ?_⟩
      rw [f6, mm_beq q2.2, e1]
  | 12, hq, hk =>
    have hk := hk rfl
    show mmKS sh tg B b g aC p l e R s m args below meth c H0 D cl nL n0 z0 Qm pc (oAld sh (fun _ _ => none) a.toNat k)
    simp only [mmCand] at hq
    obtain ⟨q1, rfl⟩ := mmB1_in hq
    have q2 := mm_blt q1
    generalize hn : a.toNat = n at q2 hd hk ⊢
    match n, q2, hd, hk with
    | 0, _, hd, hk => exact ks_ald hx hb hKx F12 (htys 0 (by omega)) (Or.inl ⟨rfl, hd⟩) hk
    | 1, _, hd, hk => exact ks_ald hx hb hKx F12 (htys 1 (by omega)) (Or.inr (Or.inl ⟨rfl, hd⟩)) hk
    | 2, _, hd, hk => exact ks_ald hx hb hKx F12 (htys 2 (by omega)) (Or.inr (Or.inr (Or.inl ⟨rfl, hd⟩))) hk
    | 3, _, hd, hk => exact ks_ald hx hb hKx F12 (htys 3 (by omega)) (Or.inr (Or.inr (Or.inr (Or.inl ⟨rfl, hd⟩)))) hk
    | 4, _, hd, hk => exact ks_ald hx hb hKx F12 (htys 4 (by omega)) (Or.inr (Or.inr (Or.inr (Or.inr (Or.inl ⟨rfl, hd⟩))))) hk
    | 5, _, hd, hk => exact ks_ald hx hb hKx F12 (htys 5 (by omega)) (Or.inr (Or.inr (Or.inr (Or.inr (Or.inr ⟨rfl, hd⟩))))) hk
  | 13, hq, hk =>
    have hk := hk rfl
    show mmKS sh tg B b g aC p l e R s m args below meth c H0 D cl nL n0 z0 Qm pc (oAst sh (fun _ _ => none) wn a.toNat k)
    simp only [mmCand] at hq
    obtain ⟨q1, rfl⟩ := mmB1_in hq
    simp only [Bool.and_eq_true] at q1
    have q2 := mm_blt q1.1
    have q3 := q1.2
    obtain ⟨rT, rN, hr4⟩ := F13
    obtain ⟨-, -, hsh4, -⟩ := F2 _ _ _ _ hr4
    generalize hn : a.toNat = n at q2 q3 hd hk ⊢
    match n, q2, q3, hd, hk with
    | 0, _, _, hd, hk => exact ks_ast hx hb hKx F12 (htys 0 (by omega)) hr4 hsh4 (Or.inl ⟨rfl, hd⟩) hk
    | 1, _, _, hd, hk => exact ks_ast hx hb hKx F12 (htys 1 (by omega)) hr4 hsh4 (Or.inr (Or.inl ⟨rfl, hd⟩)) hk
    | 2, _, _, hd, hk => exact ks_ast hx hb hKx F12 (htys 2 (by omega)) hr4 hsh4 (Or.inr (Or.inr (Or.inl ⟨rfl, hd⟩))) hk
    | 3, _, _, hd, hk => exact ks_ast hx hb hKx F12 (htys 3 (by omega)) hr4 hsh4 (Or.inr (Or.inr (Or.inr (Or.inl ⟨rfl, hd⟩)))) hk
    | 4, _, q3, _, _ => cases q3
    | 5, _, _, hd, hk => exact ks_ast hx hb hKx F12 (htys 5 (by omega)) hr4 hsh4 (Or.inr (Or.inr (Or.inr (Or.inr ⟨rfl, hd⟩)))) hk
  | 14, hq, hk =>
    obtain rfl := List.mem_singleton.mp hq
    exact ks_len hx hb hKx F12 (fun x hx => ⟨_, htys _ (by have := hsh6 x; omega)⟩) hd (hk rfl)
  | 15, hq, hk =>
    have hk := hk rfl
    show mmKS sh tg B b g aC p l e R s m args below meth c H0 D cl nL n0 z0 Qm pc (oIf X a.toNat (li.headD 0).toNat k)
    simp only [mmCand] at hq
    obtain ⟨q1, rfl⟩ := mmB1_in hq
    have q2 := mm_blt q1
    have ht : (pc : Int) + (((pcs.getD (li.headD 0).toNat 0 : Nat) : Int) - (pc : Int)) = ((pcs.getD (li.headD 0).toNat 0 : Nat) : Int) := by omega
    generalize hn : a.toNat = n at q2 hd hk ⊢
    match n, q2, hd, hk with
    | 0, _, hd, hk => exact ks_if hx hb ht (Or.inl ⟨rfl, hd⟩) hk (hX _)
    | 1, _, hd, hk => exact ks_if hx hb ht (Or.inr (Or.inl ⟨rfl, hd⟩)) hk (hX _)
    | 2, _, hd, hk => exact ks_if hx hb ht (Or.inr (Or.inr (Or.inl ⟨rfl, hd⟩))) hk (hX _)
    | 3, _, hd, hk => exact ks_if hx hb ht (Or.inr (Or.inr (Or.inr (Or.inl ⟨rfl, hd⟩)))) hk (hX _)
    | 4, _, hd, hk => exact ks_if hx hb ht (Or.inr (Or.inr (Or.inr (Or.inr (Or.inl ⟨rfl, hd⟩))))) hk (hX _)
    | 5, _, hd, hk => exact ks_if hx hb ht (Or.inr (Or.inr (Or.inr (Or.inr (Or.inr ⟨rfl, hd⟩))))) hk (hX _)
  | 16, hq, hk =>
    have hk := hk rfl
    show mmKS sh tg B b g aC p l e R s m args below meth c H0 D cl nL n0 z0 Qm pc (oIcmp X a.toNat (li.headD 0).toNat k)
    simp only [mmCand] at hq
    obtain ⟨q1, rfl⟩ := mmB1_in hq
    have q2 := mm_blt q1
    have ht : (pc : Int) + (((pcs.getD (li.headD 0).toNat 0 : Nat) : Int) - (pc : Int)) = ((pcs.getD (li.headD 0).toNat 0 : Nat) : Int) := by omega
    generalize hn : a.toNat = n at q2 hd hk ⊢
    match n, q2, hd, hk with
    | 0, _, hd, hk => exact ks_icmp hx hb ht (Or.inl ⟨rfl, hd⟩) hk (hX _)
    | 1, _, hd, hk => exact ks_icmp hx hb ht (Or.inr (Or.inl ⟨rfl, hd⟩)) hk (hX _)
    | 2, _, hd, hk => exact ks_icmp hx hb ht (Or.inr (Or.inr (Or.inl ⟨rfl, hd⟩))) hk (hX _)
    | 3, _, hd, hk => exact ks_icmp hx hb ht (Or.inr (Or.inr (Or.inr (Or.inl ⟨rfl, hd⟩)))) hk (hX _)
    | 4, _, hd, hk => exact ks_icmp hx hb ht (Or.inr (Or.inr (Or.inr (Or.inr (Or.inl ⟨rfl, hd⟩))))) hk (hX _)
    | 5, _, hd, hk => exact ks_icmp hx hb ht (Or.inr (Or.inr (Or.inr (Or.inr (Or.inr ⟨rfl, hd⟩))))) hk (hX _)
  | 17, hq, hk =>
    obtain rfl := List.mem_singleton.mp hq
    have ht : (pc : Int) + (((pcs.getD a.toNat 0 : Nat) : Int) - (pc : Int)) = ((pcs.getD a.toNat 0 : Nat) : Int) := by omega
    exact ks_goto hx hb ht hd (hX a.toNat)
  | 18, hq, hk => cases hq
  | 19, hq, hk => cases hq
  | 20, hq, hk =>
    obtain ⟨q1, rfl⟩ := mmB1_in hq
    simp only [Bool.and_eq_true] at q1
    have q2 := mm_beq q1.1
    have q3 := mm_blt q1.2
    show mmKS sh tg B b g aC p l e R s m args below meth c H0 D cl nL n0 z0 Qm pc (oRet Q a.toNat)
    rw [q2] at hd q3 ⊢
    refine hret pc ?_
    match rt, q3, hd with
    | 0, _, hd => exact Or.inl ⟨rfl, hd⟩
    | 1, _, hd => exact Or.inr (Or.inl ⟨rfl, hd⟩)
    | 2, _, hd => exact Or.inr (Or.inr (Or.inl ⟨rfl, hd⟩))
    | 3, _, hd => exact Or.inr (Or.inr (Or.inr (Or.inl ⟨rfl, hd⟩)))
    | 4, _, hd => exact Or.inr (Or.inr (Or.inr (Or.inr ⟨rfl, hd⟩)))
  | 21, hq, hk =>
    have hk := hk rfl
    show mmKS sh tg B b g aC p l e R s m args below meth c H0 D cl nL n0 z0 Qm pc (oCall sh mp K n0 z0 mc ms a.toNat k)
    simp only [mmCand] at hq
    generalize (li.getD 1 0).toNat = y at hq
    generalize a.toNat = mi at hq ⊢
    obtain ⟨r1, r2, r3, r4⟩ := hroom mi
    have callB : ∀ kd idx, (ow, idx, mi, kd) ∈ tb.2.1 → ∀ n, (parseMethodDescriptor (yM mi).desc).map (fun d => d.parameters.length) = some n → CallB R s args (onm ow) idx (yM mi) (bM mi) (lM mi) (rM mi) (.code (yM mi) (bM mi) (lM mi) (rM mi) :: TW) (rmM mi) (mp mi).2.2.2.1 (mp mi).2.2.2.2.1 n := by
      intro kd idx hin n hn
      obtain ⟨g1, g2, g3, g4, -, -⟩ := F4 _ _ _ _ hin
      exact callB_of n hts (mm_good F1 hTW g2) rfl r1 r2 (tw _ g3) (tw _ g1) ⟨g4.1, g4.2, hn⟩ ⟨r3, r4⟩
    generalize hxn : (li.headD 0).toNat = xn at hq
    match xn, hq with
    | 0, hq =>
      obtain ⟨q1, rfl⟩ := mmB1_in hq
      have q1 := of_decide_eq_true q1
      have hcb := callB _ _ q1
      obtain ⟨g1, g2, g3, g4, g5, g6⟩ := F4 _ _ _ _ q1
      rcases g6 with ⟨g6, -⟩ | ⟨-, g7, ⟨T, N, g8⟩, ⟨ts, g9, g10⟩, g11, g12, -⟩
      · cases g6
      · refine ks_call hx hb hml hown hts hKA F12 hmc hms (hKs mi) g5 (Or.inl ⟨_, T, N, ts.length, g7, g8, (F2 _ _ _ _ g8).2.2.1, ⟨ts, g9, rfl⟩, Or.inl ⟨hd, hcb _ g10, tw _ g11, tw _ (g12 rfl)⟩⟩) hk
    | 1, hq =>
      obtain ⟨q1, rfl⟩ := mmB1_in hq
      have q1 := of_decide_eq_true q1
      have hcb := callB _ _ q1
      obtain ⟨g1, g2, g3, g4, g5, g6⟩ := F4 _ _ _ _ q1
      rcases g6 with ⟨-, g7, g8, g9⟩ | ⟨g6, -⟩
      · refine ks_call hx hb hml hown hts hKA F12 hmc hms (hKs mi) g5 (Or.inr ⟨g7, hd, hcb _ g9, tw _ g8⟩) hk
      · rcases g6 with g6 | g6 <;> cases g6
    | 2, hq =>
      obtain ⟨q1, rfl⟩ := mmB1_in hq
      have q1 := of_decide_eq_true q1
      have hcb := callB _ _ q1
      obtain ⟨g1, g2, g3, g4, g5, g6⟩ := F4 _ _ _ _ q1
      rcases g6 with ⟨g6, -⟩ | ⟨-, g7, ⟨T, N, g8⟩, ⟨ts, g9, g10⟩, g11, -, g12⟩
      · cases g6
      · have hr := (g12 rfl).2
        have hcb := hcb _ g10
        have hKs := hKs mi
        rw [hr] at hcb hKs
        exact ks_call hx hb hml hown hts hKA F12 hmc hms hKs g5 (Or.inl ⟨_, T, N, ts.length, g7, g8, (F2 _ _ _ _ g8).2.2.1, ⟨ts, g9, rfl⟩, Or.inr ⟨hd, rfl, hcb, (g12 rfl).1, tw _ g11⟩⟩) hk
    | n + 3, hq => cases hq
  | 22, hq, hk =>
    obtain ⟨q1, rfl⟩ := mmB1_in hq
    obtain ⟨C, T, N, f1, f2, f3, f4, f5⟩ := F7 _ _ _ (of_decide_eq_true q1)
    obtain ⟨e1, e2, e3, ⟨ty, e4, e4'⟩, e5⟩ := F2 _ _ _ _ f1
    exact ks_new hx hb hmc hms hts (fun w hw => hTW w (e2 w hw)) ty e4 hown hKx f1 f2 e3 e4' (tw _ f3) (tw _ f4) (tw _ f5) hd (hk rfl)
  | 23, hq, hk =>
    have hk := hk rfl
    show mmKS sh tg B b g aC p l e R s m args below meth c H0 D cl nL n0 z0 Qm pc (oNewA sh n0 z0 mc ms a.toNat k)
    simp only [mmCand] at hq
    generalize a.toNat = n at hq ⊢
    have h4 : ∀ n : Nat, q ∈ mmB1 (Nat.blt n 4) (Instr.newarray (mmAty n), 2) → mmKS sh tg B b g aC p l e R s m args below meth c H0 D cl nL n0 z0 Qm pc (oNewA sh n0 z0 mc ms n k) := by
      intro n hq
      obtain ⟨q1, rfl⟩ := mmB1_in hq
      have q2 := mm_blt q1
      exact ks_newA hx hb hmc hms hKx (htys n (by omega)) q2 (mm_ty n q2) (by rw [mm_ty n q2]; exact tw _ (F11 n q2)) hd hk
    match n, hq with
    | 5, hq =>
      obtain ⟨q1, rfl⟩ := mmB1_in hq
      have f1 := F10 _ _ (of_decide_eq_true q1)
      exact ks_newQ hx hb hmc hms hown hKx (htys 5 (by omega)) (tw _ f1) hKA.2.1 hd hk
    | 0, hq => exact h4 0 hq
    | 1, hq => exact h4 1 hq
    | 2, hq => exact h4 2 hq
    | 3, hq => exact h4 3 hq
    | 4, hq => exact h4 4 hq
    | n + 6, hq => exact h4 _ hq
  | 24, hq, hk =>
    obtain ⟨q1, rfl⟩ := mmB1_in hq
    exact hgrid _ _ _ (of_decide_eq_true q1) hd (hk rfl)
  | 25, hq, hk =>
    obtain ⟨q1, rfl⟩ := mmB1_in hq
    obtain ⟨f1, f2, f3, f4⟩ := F9 _ _ (of_decide_eq_true q1)
    exact ks_cpy hx hb hml hown (tw _ f1) (tw _ f2) (tw _ f3) (tw _ f4) hKx F12 (htys 0 (by omega)) ⟨hR1, hR2⟩ hd (hk rfl)
  | 26, hq, hk =>
    obtain ⟨q1, rfl⟩ := mmB1_in hq
    obtain ⟨f1, f2, f3⟩ := F8 _ _ (of_decide_eq_true q1)
    exact ks_obj hx hb hml hown (tw _ f1) (tw _ f2) (tw _ f3) ⟨hR1, hR3⟩ hd (hk rfl)
  | 27, hq, hk =>
    obtain ⟨q1, rfl⟩ := mmB1_in hq
    obtain ⟨Ln, xs', s1, s2, s3, s4, s5, s6⟩ := hsc q1
    exact ks_sld hx hb s1 s2 s3 s4 s5 s6 hd (hk rfl)
  | 28, hq, hk =>
    obtain ⟨q1, rfl⟩ := mmB1_in hq
    obtain ⟨Ln, xs', s1, s2, s3, s4, s5, s6⟩ := hsc q1
    exact ks_slen hx hb s1 s2 s3 s4 s5 hd (hk rfl)
  | 29, hq, hk =>
    obtain ⟨q1, rfl⟩ := mmB1_in hq
    exact (htext _ _ _).2.1 (of_decide_eq_true q1) hd (hk rfl)
  | 30, hq, hk =>
    obtain ⟨q1, rfl⟩ := mmB1_in hq
    exact (htext _ _ _).2.2.1 (of_decide_eq_true q1) hd (hk rfl)
  | 31, hq, hk =>
    obtain ⟨q1, rfl⟩ := mmB1_in hq
    simp only [Bool.and_eq_true, decide_eq_true_eq] at q1
    exact (htext _ _ _).2.2.2 _ (mm_blt q1.1) q1.2 hd (hk rfl)
  | n + 32, hq, hk => cases hq
end MS1
end
section
/-! ===== mm: blocks, methods ===== -/
section MB0
variable {pc : Nat} {pcs : List Nat}
theorem mmLck_at {off : Int → Int} : ∀ (ps : List (Int × Int)) (ts : List Int), mmLck off ps ts = true → ts.length = 2 * ps.length ∧ ∀ (j : Nat) (q : Int × Int), ps[j]? = some q → ts[2 * j]? = some q.1 ∧ ∃ t, ts[2 * j + 1]? = some t ∧ off t = q.2
  | [], [], _ => ⟨rfl, fun j q h => by simp at h⟩
  | [], _ :: _, h => by simp [mmLck] at h
  | q :: ps, [], h => by simp [mmLck] at h
  | q :: ps, [_], h => by simp [mmLck] at h
  | q :: ps, k :: t :: r, h => by
    simp only [mmLck, Bool.and_eq_true, decide_eq_true_eq] at h
    obtain ⟨h1, h2, h3⟩ := h
    obtain ⟨i1, i2⟩ := mmLck_at ps r h3
    refine ⟨by simp [i1]; omega, fun j z hz => ?_⟩
    cases j with
    | zero =>
      simp at hz
      subst hz
      exact ⟨by simp [h1], t, by simp, h2⟩
    | succ j =>
      rw [List.getElem?_cons_succ] at hz
      obtain ⟨a1, t', a2, a3⟩ := i2 j z hz
      have e1 : 2 * (j + 1) = 2 * j + 1 + 1 := by omega
      have e2 : 2 * (j + 1) + 1 = 2 * j + 1 + 1 + 1 := by omega
      refine ⟨by rw [e1, List.getElem?_cons_succ, List.getElem?_cons_succ]; exact a1, t', by rw [e2, List.getElem?_cons_succ, List.getElem?_cons_succ]; exact a2, a3⟩
end MB0
section MB1
variable {sh : Int → Nat × Nat} {tg : Nat → Nat → Nat} {B b g : Nat} {aC : Nat → ClassId} {p : Program} {l : Launch} {e : Env} {R : Room} {s : State} {m : MethodId} {args : Array Value} {below : List Frame} {meth : Method} {c : Code} {H0 : Heap} {D : va_G} {cl : List vw_C} {nL n0 z0 : Nat} {Qm : State → Prop}
variable {cc : ByteArray} {tys : List (ClassId × FieldType)} {wn : Int → Bool} {tb : mmT} {fin : Nat → Nat → Bool} {onm : Nat → String} {mp : Nat → mmM} {yM : Nat → MethodName} {bM : Nat → ByteArray} {lM : Nat → Nat} {rM : Nat → Option FieldType} {TW Ts : List Cond}
variable {K : Nat → List Int → mmH → (Int → mmH → Prop) → Prop} {Q : Int → mmH → Prop} {X : Nat → mmKont} {mc ms L : Int} {xs : Int → Int} {tx : List Int}
theorem ks_sw {pc : Nat} {pcs : List Nat} {op : mmOp} {i : Instr} {len : Nat} {k : mmKont} (hx : p.tables.exec = Jvm.exec) (hb : c.code = cc) (hX : ∀ bl : Nat, mmKS sh tg B b g aC p l e R s m args below meth c H0 D cl nL n0 z0 Qm (pcs.getD bl 0) (X bl)) (hd : decode cc pc = .ok (i, len)) (hq : mmSw pcs pc op i = true) :
    mmKS sh tg B b g aC p l e R s m args below meth c H0 D cl nL n0 z0 Qm pc (mmStep sh tg (fun _ _ => none) wn mp K Q X n0 z0 mc ms L xs tx op.1 op.2.1 op.2.2 k) := by
  obtain ⟨o, a, li⟩ := op
  unfold mmSw at hq
  simp only [] at hq
  split at hq
  · next _ _ d ts dd lo hi offs =>
    simp only [Bool.and_eq_true, decide_eq_true_eq] at hq
    obtain ⟨q1, q2, q3, q4⟩ := hq
    have q2' : lo = a := q2
    have q3' : hi = a + (ts.length : Int) - 1 := q3
    have q5 : lo + (ts.length : Int) = hi + 1 := by rw [q2', q3']; omega
    subst q2'
    refine ks_tsw (pcs := fun bl => pcs.getD bl 0) hx hb hd q5 (by rw [q1]; omega) (fun j t hj => ?_) hX
    refine ⟨((pcs.getD t.toNat 0 : Nat) : Int) - (pc : Int), ?_, by omega⟩
    rw [q4]
    simp [hj]
  · next _ _ d ts dd ps =>
    simp only [Bool.and_eq_true, decide_eq_true_eq] at hq
    obtain ⟨q1, q2, q3⟩ := hq
    obtain ⟨l1, l2⟩ := mmLck_at _ _ q3
    refine ks_lsw (pcs := fun bl => pcs.getD bl 0) hx hb hd q2 (by rw [q1]; omega) l1 (fun j q hj => ?_) hX
    obtain ⟨a1, t, a2, a3⟩ := l2 j q hj
    exact ⟨a1, t, a2, by rw [← a3]; omega⟩
  · cases hq
theorem ks_blk {ow rt : Nat} {isInit sc : Bool} {nm : String} {pcs : List Nat} {rmM : Nat → Room} (hF : mmFT sh tg tb fin onm cl mp yM bM lM rM TW) (hC : mmCx nm sc ow rt aC p l R s m args meth c D cl nL B b cc tys onm TW Ts mc ms L xs H0 sh) (hinit : isInit = true → nm = "<init>")
    (hKs : ∀ mi as h Qc, K mi as h Qc → mmMet sh tg B b g aC D cl tys l (yM mi) (.code (yM mi) (bM mi) (lM mi) (rM mi) :: TW) (rmM mi) (mp mi).1.reverse (mp mi).2.1 (mp mi).2.2.2.1 (mp mi).2.2.2.2.1 as h Qc)
    (hroom : ∀ mi, (rmM mi).cells = (mp mi).2.2.2.1 ∧ (rmM mi).slots = (mp mi).2.2.2.2.1 ∧ (rmM mi).frames + 1 ≤ R.frames ∧ 8 + (lM mi + 11) + (rmM mi).locals ≤ R.locals)
    (hret : ∀ (pc' : Nat), (rt = 0 ∧ decode cc pc' = .ok (.return_, 1)) ∨ (rt = 1 ∧ decode cc pc' = .ok (.ireturn, 1)) ∨ (rt = 2 ∧ decode cc pc' = .ok (.lreturn, 1)) ∨ (rt = 3 ∧ decode cc pc' = .ok (.areturn, 1)) ∨ (rt = 4 ∧ decode cc pc' = .ok (.ireturn, 1)) → mmKS sh tg B b g aC p l e R s m args below meth c H0 D cl nL n0 z0 Qm pc' (oRet Q rt))
    (htext : ∀ (pc' idx : Nat) (k' : mmKont), ((ow, idx) ∈ tb.2.2.2.2.2.2.2.2.2 → decode cc pc' = .ok (.ldc idx, 2) → mmKS sh tg B b g aC p l e R s m args below meth c H0 D cl nL n0 z0 Qm (pc' + 2) k' → mmKS sh tg B b g aC p l e R s m args below meth c H0 D cl nL n0 z0 Qm pc' (oPush 5 0 k')) ∧ ((ow, 100000 + idx) ∈ tb.2.2.2.2.2.2.2.2.2 → decode cc pc' = .ok (.invokevirtual idx, 3) → mmKS sh tg B b g aC p l e R s m args below meth c H0 D cl nL n0 z0 Qm (pc' + 3) k' → mmKS sh tg B b g aC p l e R s m args below meth c H0 D cl nL n0 z0 Qm pc' (oTlen tx k')) ∧ ((ow, 200000 + idx) ∈ tb.2.2.2.2.2.2.2.2.2 → decode cc pc' = .ok (.invokevirtual idx, 3) → mmKS sh tg B b g aC p l e R s m args below meth c H0 D cl nL n0 z0 Qm (pc' + 3) k' → mmKS sh tg B b g aC p l e R s m args below meth c H0 D cl nL n0 z0 Qm pc' (oTat tx k')) ∧ ∀ f : Nat, f < 5 → (ow, 300000 + 10000 * f + idx) ∈ tb.2.2.2.2.2.2.2.2.2 → decode cc pc' = .ok (.invokestatic idx, 3) → mmKS sh tg B b g aC p l e R s m args below meth c H0 D cl nL n0 z0 Qm (pc' + 3) k' → mmKS sh tg B b g aC p l e R s m args below meth c H0 D cl nL n0 z0 Qm pc' (oMath f k'))
    (hgrid : ∀ (pc' idx : Nat) (k' : mmKont), (ow, idx) ∈ tb.2.2.2.2.2.2.2.2.1 → decode cc pc' = .ok (.multianewarray idx 2, 4) → mmKS sh tg B b g aC p l e R s m args below meth c H0 D cl nL n0 z0 Qm (pc' + 4) k' → mmKS sh tg B b g aC p l e R s m args below meth c H0 D cl nL n0 z0 Qm pc' (oNewM sh n0 z0 mc ms k'))
    (hX : ∀ bl : Nat, mmKS sh tg B b g aC p l e R s m args below meth c H0 D cl nL n0 z0 Qm (pcs.getD bl 0) (X bl)) : ∀ (ops : List mmOp) (pc : Nat), mmChkB tb fin ow isInit sc rt cc pcs pc ops = true → mmKS sh tg B b g aC p l e R s m args below meth c H0 D cl nL n0 z0 Qm pc (mmEx sh tg (fun _ _ => none) wn mp K Q X n0 z0 mc ms L xs tx ops)
  | [], pc, h => by simp [mmChkB] at h
  | op :: ops, pc, h => by
    unfold mmChkB at h
    rw [Bool.or_eq_true] at h
    show mmKS sh tg B b g aC p l e R s m args below meth c H0 D cl nL n0 z0 Qm pc (mmStep sh tg (fun _ _ => none) wn mp K Q X n0 z0 mc ms L xs tx op.1 op.2.1 op.2.2 (mmEx sh tg (fun _ _ => none) wn mp K Q X n0 z0 mc ms L xs tx ops))
    rcases h with h | h
    · simp only [Bool.and_eq_true, decide_eq_true_eq] at h
      obtain ⟨h1, h2, h3⟩ := h
      have e : op.1 = 17 := mm_beq h1
      rw [e]
      have := hX op.2.1.toNat
      rw [List.getD_eq_getElem?_getD, h3] at this
      exact this
    · cases hd : decode cc pc with
      | error q => rw [hd] at h; simp at h
      | ok q =>
        rw [hd] at h
        simp only [Bool.or_eq_true, Bool.and_eq_true] at h
        rcases h with ⟨h1, h2⟩ | h
        · obtain ⟨z, hz1, hz2⟩ := List.any_eq_true.mp h1
          have hz := of_decide_eq_true hz2
          rw [← hz] at hz1
          refine ks_op hF hC hinit hKs hroom hret htext hgrid hX hd hz1 (fun he => ?_)
          rcases h2 with h2 | h2
          · rw [h2] at he; cases he
          · exact ks_blk hF hC hinit hKs hroom hret htext hgrid hX ops _ h2
        · exact ks_sw hC.1 hC.2.1 hX hd h
end MB1
section MB2
variable (sh : Int → Nat × Nat) (tg : Nat → Nat → Nat) (fc : Int → Int → Option Int) (wn : Nat → Int → Bool) (mp : Nat → mmM)
-- a method's blocks, how many locals it has
variable (bl : Nat → List (List mmOp)) (nl : Nat → Nat) (tx : List Int)
def mmIl : List Nat → List Int → Nat → List mmV
  | t :: ts, x :: as, n => (t, x) :: (bif Nat.beq t 2 then (0, 0) :: mmIl ts as (n - 2) else mmIl ts as (n - 1))
  | _, _, n => List.replicate n (0, 0)
/-- what holds at a block's start: whatever is closed under the blocks -/
def mmWb (K : Nat → List Int → mmH → (Int → mmH → Prop) → Prop) (Q : Int → mmH → Prop) (w : Int → Bool) (blks : List (List mmOp)) (n0 z0 mc ms L : Int) (xs : Int → Int) (i : Nat) : mmKont := fun ls st h =>
  ∀ X : Nat → mmKont, (∀ i ls st h, mmEx sh tg fc w mp K Q X n0 z0 mc ms L xs tx (blks.getD i []) ls st h → X i ls st h) → X i ls st h
/-- a method, by the depth of calls that are left -/
def mmC : Nat → Nat → List Int → mmH → (Int → mmH → Prop) → Prop
  | 0, _, _, _, _ => False
  | d + 1, mi, as, h, Q => mmWb sh tg fc mp tx (mmC d) (fun x h' => mmGrow (mp mi).2.2.2.1 (mp mi).2.2.2.2.1 h h' ∧ Q x h') (wn (mp mi).2.2.2.2.2) (bl mi) (h 0 0) (h 0 1) ((mp mi).2.2.2.1 : Int) ((mp mi).2.2.2.2.1 : Int) 0 (fun _ => 0) 0 (mmIl (mp mi).1.reverse as (nl mi)) [] h
end MB2
section MB3
variable (sh : Int → Nat × Nat) (tg : Nat → Nat → Nat) (B b g : Nat) (aC : Nat → ClassId)
theorem mmVal_c2 {t : Nat} {x : Int} : (mmVal B b g (t, x)).category = 2 ↔ t = 2 := by
  rw [mmVal_cat]
  by_cases e : t = 2 <;> simp [e]
theorem mmIl_len : ∀ (ts : List Nat) (as : List Int) (n : Nat), (lg_sl (mmAv B b g ts as)).length ≤ n → (mmIl ts as n).length = n
  | [], _, n, _ => by simp [mmIl]
  | _ :: _, [], n, _ => by simp [mmIl]
  | t :: ts, x :: as, n, h => by
    have e : lg_sl (mmAv B b g (t :: ts) (x :: as)) = (if (mmVal B b g (t, x)).category = 2 then [.val (mmVal B b g (t, x)), .second] else [.val (mmVal B b g (t, x))]) ++ lg_sl (mmAv B b g ts as) := rfl
    rw [e, List.length_append] at h
    unfold mmIl
    cases e2 : Nat.beq t 2 with
    | true =>
      rw [if_pos ((mmVal_c2 B b g).mpr (mm_beq e2))] at h
      simp at h
      have := mmIl_len ts as (n - 2) (by omega)
      simp [this]
      omega
    | false =>
      rw [if_neg (fun q => by rw [(mmVal_c2 B b g).mp q] at e2; cases e2)] at h
      simp at h
      have := mmIl_len ts as (n - 1) (by omega)
      simp [this]
      omega
theorem mmIl_at : ∀ (ts : List Nat) (as : List Int) (n k i : Nat), ((mmIl ts as n).getD i (0, 0)).1 ≠ 0 → (k + i, mmVal B b g ((mmIl ts as n).getD i (0, 0))) ∈ lv_args k (mmAv B b g ts as)
  | [], as, n, k, i, h => by
    exfalso; apply h
    unfold mmIl
    rw [List.getD_eq_getElem?_getD, List.getElem?_replicate]
    split <;> rfl
  | t :: ts, [], n, k, i, h => by
    exfalso; apply h
    unfold mmIl
    rw [List.getD_eq_getElem?_getD, List.getElem?_replicate]
    split <;> rfl
  | t :: ts, x :: as, n, k, i, h => by
    have e : lv_args k (mmAv B b g (t :: ts) (x :: as)) = (k, mmVal B b g (t, x)) :: lv_args (if (mmVal B b g (t, x)).category = 2 then k + 2 else k + 1) (mmAv B b g ts as) := rfl
    rw [e]
    unfold mmIl at h ⊢
    cases i with
    | zero => exact List.mem_cons_self
    | succ i =>
      refine List.mem_cons_of_mem _ ?_
      cases e2 : Nat.beq t 2 with
      | true =>
        rw [e2] at h
        rw [if_pos ((mmVal_c2 B b g).mpr (mm_beq e2))]
        simp only [cond_true, List.getD_cons_succ] at h ⊢
        cases i with
        | zero => exact absurd rfl h
        | succ i =>
          rw [List.getD_cons_succ] at h ⊢
          have := mmIl_at ts as (n - 2) (k + 2) i h
          rw [show k + (i + 1 + 1) = k + 2 + i by omega]
          exact this
      | false =>
        rw [e2] at h
        rw [if_neg (fun q => by rw [(mmVal_c2 B b g).mp q] at e2; cases e2)]
        simp only [cond_false, List.getD_cons_succ] at h ⊢
        have := mmIl_at ts as (n - 1) (k + 1) i h
        rw [show k + (i + 1) = k + 1 + i by omega]
        exact this
theorem mmIl_ok {n : Int} : ∀ (ts : List Nat) (as : List Int) (k : Nat), (∀ q ∈ List.zip ts as, mmOk n q) → ∀ v ∈ mmIl ts as k, mmOk n v
  | [], as, k, h, v, hv => by
    unfold mmIl at hv
    rw [(List.mem_replicate.mp hv).2]
    trivial
  | t :: ts, [], k, h, v, hv => by
    unfold mmIl at hv
    rw [(List.mem_replicate.mp hv).2]
    trivial
  | t :: ts, x :: as, k, h, v, hv => by
    rw [List.zip_cons_cons] at h
    unfold mmIl at hv
    rcases List.mem_cons.mp hv with q | q
    · rw [q]; exact h _ List.mem_cons_self
    · have h2 : ∀ q ∈ List.zip ts as, mmOk n q := fun z hz => h z (List.mem_cons_of_mem _ hz)
      cases e2 : Nat.beq t 2 with
      | true =>
        rw [e2] at q
        simp only [cond_true] at q
        rcases List.mem_cons.mp q with q | q
        · rw [q]; trivial
        · exact mmIl_ok ts as _ h2 v q
      | false =>
        rw [e2] at q
        exact mmIl_ok ts as _ h2 v q
end MB3
end
section
/-! ===== mm: what the small machine says of a method, the machine does ===== -/
/-- the methods: each one's own kind's number, whether it is a constructor, where its blocks start -/
def mmFM (tb : mmT) (fin : Nat → Nat → Bool) (onm : Nat → String) (mp : Nat → mmM) (yM : Nat → MethodName) (bM : Nat → ByteArray) (lM : Nat → Nat) (rM : Nat → Option FieldType) (TW : List Cond) (bl : Nat → List (List mmOp)) (oM : Nat → Nat × Bool) (pM : Nat → List Nat) : Prop :=
  ∀ mi, bl mi = [] ∨ (mmChk tb fin (oM mi).1 (oM mi).2 false (mp mi).2.1 (bM mi) (pM mi) (bl mi) = true ∧ plainName (yM mi).cls = true ∧ onm (oM mi).1 = (yM mi).cls ∧ ((oM mi).2 = true → (yM mi).name = "<init>") ∧
    ((mp mi).1.foldr (fun t n => (bif Nat.beq t 2 then 2 else 1) + n) 0 ≤ lM mi) ∧
    (((mp mi).2.1 = 0 ∧ rM mi = none) ∨ ((mp mi).2.1 = 1 ∧ rM mi = some .int) ∨ ((mp mi).2.1 = 2 ∧ rM mi = some .long) ∨ ((mp mi).2.1 = 3 ∧ ∃ ty, rM mi = some ty ∧ ((∃ n, ty = .object n) ∨ ∃ t, ty = .array t)) ∨ ((mp mi).2.1 = 4 ∧ rM mi = some .boolean)) ∧
    Cond.code (yM mi) (bM mi) (lM mi) (rM mi) ∈ TW)
def mmRm (mp : Nat → mmM) (d mi : Nat) : Room := { frames := d + 5, cells := (mp mi).2.2.2.1, slots := (mp mi).2.2.2.2.1, locals := 80 * d + 120 }
/-- what is wanted of the text constant's load, its length and characters, and of the library's max, min, floorDiv -/
def mmTextOk (sh : Int → Nat × Nat) (tg : Nat → Nat → Nat) (B b g : Nat) (aC : Nat → ClassId) (l : Launch) (D : va_G) (cl : List vw_C) (tb : mmT) (onm : Nat → String) (TW : List Cond) (tx : List Int) : Prop :=
  ∀ (p : Program) (e : Env) (R : Room) (s : State) (m : MethodId) (args : Array Value) (below : List Frame) (meth : Method) (c : Code) (nL n0 z0 : Nat) (Qm : State → Prop) (ow : Nat) (cc : ByteArray), p.tables.exec = Jvm.exec → c.code = cc → s.vm.findClass (onm ow) = some m.cls → (∀ w ∈ TW, w.before args s = true) → c.maxLocals = nL → 150 ≤ R.locals ∧ 3 ≤ R.frames →
      ∀ (pc' idx : Nat) (k' : mmKont), ((ow, idx) ∈ tb.2.2.2.2.2.2.2.2.2 → decode cc pc' = .ok (.ldc idx, 2) → mmKS sh tg B b g aC p l e R s m args below meth c s.heap D cl nL n0 z0 Qm (pc' + 2) k' → mmKS sh tg B b g aC p l e R s m args below meth c s.heap D cl nL n0 z0 Qm pc' (oPush 5 0 k')) ∧ ((ow, 100000 + idx) ∈ tb.2.2.2.2.2.2.2.2.2 → decode cc pc' = .ok (.invokevirtual idx, 3) → mmKS sh tg B b g aC p l e R s m args below meth c s.heap D cl nL n0 z0 Qm (pc' + 3) k' → mmKS sh tg B b g aC p l e R s m args below meth c s.heap D cl nL n0 z0 Qm pc' (oTlen tx k')) ∧ ((ow, 200000 + idx) ∈ tb.2.2.2.2.2.2.2.2.2 → decode cc pc' = .ok (.invokevirtual idx, 3) → mmKS sh tg B b g aC p l e R s m args below meth c s.heap D cl nL n0 z0 Qm (pc' + 3) k' → mmKS sh tg B b g aC p l e R s m args below meth c s.heap D cl nL n0 z0 Qm pc' (oTat tx k')) ∧ ∀ f : Nat, f < 5 → (ow, 300000 + 10000 * f + idx) ∈ tb.2.2.2.2.2.2.2.2.2 → decode cc pc' = .ok (.invokestatic idx, 3) → mmKS sh tg B b g aC p l e R s m args below meth c s.heap D cl nL n0 z0 Qm (pc' + 3) k' → mmKS sh tg B b g aC p l e R s m args below meth c s.heap D cl nL n0 z0 Qm pc' (oMath f k')
/-- what is wanted of new int[n][m] -/
def mmGridOk (sh : Int → Nat × Nat) (tg : Nat → Nat → Nat) (B b g : Nat) (aC : Nat → ClassId) (l : Launch) (D : va_G) (cl : List vw_C) (tys : List (ClassId × FieldType)) (tb : mmT) (onm : Nat → String) (TW : List Cond) : Prop :=
  ∀ (p : Program) (e : Env) (R : Room) (s : State) (m : MethodId) (args : Array Value) (below : List Frame) (meth : Method) (c : Code) (nL n0 z0 : Nat) (Qm : State → Prop) (ow : Nat) (cc : ByteArray), p.tables.exec = Jvm.exec → c.code = cc → s.vm.findClass (onm ow) = some m.cls → (∀ w ∈ TW, w.before args s = true) → mmKA D cl tys s →
      ∀ (pc' idx : Nat) (k' : mmKont), (ow, idx) ∈ tb.2.2.2.2.2.2.2.2.1 → decode cc pc' = .ok (.multianewarray idx 2, 4) → mmKS sh tg B b g aC p l e R s m args below meth c s.heap D cl nL n0 z0 Qm (pc' + 4) k' → mmKS sh tg B b g aC p l e R s m args below meth c s.heap D cl nL n0 z0 Qm pc' (oNewM sh n0 z0 (R.cells : Int) (R.slots : Int) k')
section MM1
variable {sh : Int → Nat × Nat} {tg : Nat → Nat → Nat} {B b g : Nat} {aC : Nat → ClassId} {l : Launch} {D : va_G} {cl : List vw_C} {tys : List (ClassId × FieldType)} {wn : Nat → Int → Bool} {tb : mmT} {fin : Nat → Nat → Bool} {onm : Nat → String} {mp : Nat → mmM} {yM : Nat → MethodName} {bM : Nat → ByteArray} {lM : Nat → Nat} {rM : Nat → Option FieldType} {TW : List Cond} {bl : Nat → List (List mmOp)} {oM : Nat → Nat × Bool} {pM : Nat → List Nat} {tx : List Int}
theorem mm_sum_rev (f : Nat → Nat) : ∀ (l : List Nat), (l.reverse.map f).sum = l.foldr (fun t n => f t + n) 0
  | [] => rfl
  | t :: l => by
    rw [List.reverse_cons, List.map_append, List.sum_append, mm_sum_rev f l]
    simp
    omega
theorem lg_len : ∀ (ts : List Nat) (as : List Int), (lg_sl (mmAv B b g ts as)).length ≤ (ts.map (fun t => bif Nat.beq t 2 then 2 else 1)).sum
  | [], as => by simp [mmAv, lg_sl]
  | t :: ts, [] => by simp [mmAv, lg_sl]
  | t :: ts, x :: as => by
    have e : lg_sl (mmAv B b g (t :: ts) (x :: as)) = (if (mmVal B b g (t, x)).category = 2 then [.val (mmVal B b g (t, x)), .second] else [.val (mmVal B b g (t, x))]) ++ lg_sl (mmAv B b g ts as) := rfl
    have ih := lg_len ts as
    rw [e, List.length_append, List.map_cons, List.sum_cons]
    cases e2 : Nat.beq t 2 with
    | true =>
      rw [if_pos ((mmVal_c2 B b g).mpr (mm_beq e2))]
      simp
      omega
    | false =>
      rw [if_neg (fun q => by rw [(mmVal_c2 B b g).mp q] at e2; cases e2)]
      simp
      omega
set_option maxHeartbeats 4000000 in
/-- THE THEOREM of the small machine; ht, hg: the text constant's load, new int[n][m] -/
theorem mm_sound (hF : mmFT sh tg tb fin onm cl mp yM bM lM rM TW) (hM : mmFM tb fin onm mp yM bM lM rM TW bl oM pM) (hcl7 : ∀ x, (sh x).1 < 106) (hl40 : ∀ mi, lM mi ≤ 40) (hnat : nativeFrameWords "java/lang/System" "arraycopy" 5 ≤ 90) (htys : ∀ kd, kd < 6 → tys[kd]? = some (aC kd, mmKt kd))
    (htext : mmTextOk sh tg B b g aC l D cl tb onm TW tx) (hgrid : mmGridOk sh tg B b g aC l D cl tys tb onm TW) :
    ∀ (d mi : Nat) (as : List Int) (h : mmH) (Q : Int → mmH → Prop), mmC sh tg (fun _ _ => none) wn mp bl lM tx d mi as h Q → mmMet sh tg B b g aC D cl tys l (yM mi) (.code (yM mi) (bM mi) (lM mi) (rM mi) :: TW) (mmRm mp d mi) (mp mi).1.reverse (mp mi).2.1 (mp mi).2.2.2.1 (mp mi).2.2.2.2.1 as h Q
  | 0, mi, as, h, Q, hc => hc.elim
  | d + 1, mi, as, h, Q, hc => by
    intro hlen hok
    have IH := mm_sound hF hM hcl7 hl40 hnat htys htext hgrid d
    rcases hM mi with hbl | ⟨hchk, hplain, hon, hini, hargs, hrt, hcode⟩
    · exfalso
      refine hc (fun _ _ _ _ => False) (fun i ls st h q => ?_)
      rw [hbl] at q
      exact q
    · refine Met.ofW (cc := bM mi) (maxL := lM mi) (ret := rM mi) hplain rfl ?_
      intro p e s m args below meth c s₁ BB hml hv
      obtain ⟨rfl, w1, w2, w3, w4⟩ := hv
      have hx := BB.exec
      have hb := BB.bytes
      have hr := BB.returns
      have hts := atoms_spec (ws := .code (yM mi) (bM mi) (lM mi) (rM mi) :: TW) BB.pre
      have hown : s.vm.findClass (yM mi).cls = some m.cls := findClass_of_methodNamed BB.named
      rw [← hon] at hown
      have hlocks := BB.notSynchronized
      have hname : meth.name = (yM mi).name := (name_of_methodNamed BB.named BB.method).1
      have hTW : ∀ w ∈ TW, w ∈ (Cond.code (yM mi) (bM mi) (lM mi) (rM mi) :: TW) := fun w hw => List.mem_cons_of_mem _ hw
      have hroom : (headSpec (.code (yM mi) (bM mi) (lM mi) (rM mi) :: TW) (mmRm mp (d + 1) mi)).room = mmRm mp (d + 1) mi := rfl
      rw [hroom]
      have hargl : (lg_sl (mmAv B b g (mp mi).1.reverse as)).length ≤ lM mi := by
        have := lg_len (B := B) (b := b) (g := g) (mp mi).1.reverse as
        rw [mm_sum_rev] at this
        omega
      have hl := lv_entry (mmAv B b g (mp mi).1.reverse as) (n := lM mi) hargl
      rw [lg_entry_eq]
      generalize (lg_sl (mmAv B b g (mp mi).1.reverse as) ++ List.replicate (lM mi - (lg_sl (mmAv B b g (mp mi).1.reverse as)).length) Slot.unset).toArray = lsA at hl ⊢
      simp only [mmChk, Bool.and_eq_true, decide_eq_true_eq] at hchk
      obtain ⟨c1, c2, c3⟩ := hchk
      have hn1 := w4.1
      have hz1 := w4.2.1
      have en : h 0 0 = (((h 0 0).toNat : Nat) : Int) := by omega
      have ez : h 0 1 = (((h 0 1).toNat : Nat) : Int) := by omega
      have hQm := rfl (a := MQ below (mmQc sh tg B b g aC D cl tys (mp mi).2.1 (mp mi).2.2.2.1 (mp mi).2.2.2.2.1 h Q) (mmAv B b g (mp mi).1.reverse as).toArray s (mp mi).2.2.2.1 (mp mi).2.2.2.2.1 (mmA B))
      have hC : mmCx (yM mi).name false (oM mi).1 (mp mi).2.1 aC p l (mmRm mp (d + 1) mi) s m (mmAv B b g (mp mi).1.reverse as).toArray meth c D cl (lM mi) B b (bM mi) tys onm TW (Cond.code (yM mi) (bM mi) (lM mi) (rM mi) :: TW) ((mp mi).2.2.2.1 : Int) ((mp mi).2.2.2.2.1 : Int) 0 (fun _ => 0) s.heap sh := by
        refine ⟨hx, hb, hml, hown, hts, hTW, w3, htys, rfl, rfl, ⟨?_, ?_, ?_⟩, hname, fun q => (by cases q), hcl7⟩
        · show 1 ≤ d + 1 + 5; omega
        · show _ ≤ 80 * (d + 1) + 120; omega
        · show 20 ≤ 80 * (d + 1) + 120; omega
      have key := hc (fun i ls st h' => ∀ (H : Heap) (locs : List Loc) (lsB : Array Slot), mmIn sh tg B b g aC (mmRm mp (d + 1) mi) s.heap D cl (lM mi) (h 0 0).toNat (h 0 1).toNat ls st h' H locs lsB →
        W p l e (mmRm mp (d + 1) mi) s m (mmAv B b g (mp mi).1.reverse as).toArray below meth c H locs ((h' 0 0).toNat - (h 0 0).toNat) ((h' 0 1).toNat - (h 0 1).toNat) (MQ below (mmQc sh tg B b g aC D cl tys (mp mi).2.1 (mp mi).2.2.2.1 (mp mi).2.2.2.2.1 h Q) (mmAv B b g (mp mi).1.reverse as).toArray s (mp mi).2.2.2.1 (mp mi).2.2.2.2.1 (mmA B)) (F0 m ((pM mi).getD i 0) lsB (st.map (mmVal B b g)))) ?_
      · have := key s.heap [] lsA ⟨?_, ?_, ?_, fun v hv => (by cases hv), ⟨w1, w2, va_S.rf, w4⟩, by omega, by omega, by omega, by omega⟩
        · rw [Nat.sub_self, Nat.sub_self] at this
          have e0 : (pM mi).getD 0 0 = 0 := by rw [List.getD_eq_getElem?_getD, c1]; rfl
          rw [e0] at this
          exact this
        · refine lv_less hl fun q hq => ?_
          obtain ⟨i, w⟩ := q
          obtain ⟨_, q2, rfl⟩ := (mmLv_in B b g).mp hq
          have := mmIl_at B b g _ _ _ 0 i q2
          rw [Nat.zero_add] at this
          exact this
        · exact mmIl_len B b g _ _ _ hargl
        · exact mmIl_ok _ _ _ hok
      · intro i ls st h' hex H locs lsB hin
        by_cases hi : i < (bl mi).length
        · have hci := List.all_eq_true.mp c3 i (List.mem_range.mpr (by omega))
          rw [en, ez] at hex
          refine ks_blk hF hC hini (fun mi' as' h'' Qc hk => IH mi' as' h'' Qc hk) (fun mi' => ⟨rfl, rfl, by show d + 5 + 1 ≤ d + 1 + 5; omega, by have := hl40 mi'; show 8 + (lM mi' + 11) + (80 * d + 120) ≤ 80 * (d + 1) + 120; omega⟩) ?_ (htext p e _ s m _ below meth c _ _ _ _ _ _ hx hb hown (fun w hw => hts w (hTW w hw)) hml ⟨by show 150 ≤ 80 * (d + 1) + 120; omega, by show 3 ≤ d + 1 + 5; omega⟩) (hgrid p e _ s m _ below meth c _ _ _ _ _ _ hx hb hown (fun w hw => hts w (hTW w hw)) w3) (fun bl' ls st h H locs lsA q hA => q H locs lsA hA) _ _ hci ls st h' H locs lsB hex hin
          intro pc' hd
          refine ks_ret hx hb hlocks rfl rfl rfl ⟨by omega, by omega⟩ ⟨rfl, rfl⟩ w3 hr rfl ?_
          rcases hrt with ⟨r1, r2⟩ | ⟨r1, r2⟩ | ⟨r1, r2⟩ | ⟨r1, r2⟩ | ⟨r1, r2⟩ <;> rcases hd with ⟨d1, d2⟩ | ⟨d1, d2⟩ | ⟨d1, d2⟩ | ⟨d1, d2⟩ | ⟨d1, d2⟩ <;> first
            | (exfalso; rw [r1] at d1; cases d1; done)
            | exact Or.inl ⟨r1, d2, r2⟩
            | exact Or.inr (Or.inl ⟨r1, d2, r2⟩)
            | exact Or.inr (Or.inr (Or.inl ⟨r1, d2, r2⟩))
            | exact Or.inr (Or.inr (Or.inr (Or.inl ⟨r1, d2, r2⟩)))
            | exact Or.inr (Or.inr (Or.inr (Or.inr ⟨r1, d2, r2⟩)))
        · rw [List.getD_eq_getElem?_getD, List.getElem?_eq_none (by omega)] at hex
          exact hex.elim
end MM1
end
section
/-! ===== mm: max and min ===== -/
section MR9
variable {sh : Int → Nat × Nat} {tg : Nat → Nat → Nat} {B b g : Nat} {aC : Nat → ClassId} {p : Program} {l : Launch} {e : Env} {R : Room} {s : State} {m : MethodId} {args : Array Value} {below : List Frame} {meth : Method} {c : Code} {H0 : Heap} {D : va_G} {cl : List vw_C} {nL n0 z0 : Nat} {Qm : State → Prop}
variable {pc : Nat} {k : mmKont} {cc : ByteArray}
theorem mm_lt64 {x y : Int} {n : Int} (hx : mmOk n (2, x)) (hy : mmOk n (2, y)) : (Int64.ofInt x < Int64.ofInt y) ↔ x < y := by
  rw [Int64.lt_iff_toInt_lt, mm_t64 hx.1 hx.2, mm_t64 hy.1 hy.2]
theorem ks_mmax (hx : p.tables.exec = Jvm.exec) (hb : c.code = cc) (hml : c.maxLocals = nL) {own : String} {index f : Nat} (hown : s.vm.findClass own = some m.cls) (hini : (Cond.initialized "java/lang/Math").before args s = true) (hR : 1 ≤ R.frames ∧ 30 ≤ R.locals) (hd : decode cc pc = .ok (.invokestatic index, 3))
    (hw : (f = 0 ∧ (Cond.methodLink own index Lib.Math.max.name).before args s = true ∧ (Cond.static Lib.Math.max.name).before args s = true ∧ (Cond.code Lib.Math.max.name Lib.Math.max.code 2 (some .int)).before args s = true) ∨
      (f = 1 ∧ (Cond.methodLink own index Lib.Math.min.name).before args s = true ∧ (Cond.static Lib.Math.min.name).before args s = true ∧ (Cond.code Lib.Math.min.name Lib.Math.min.code 2 (some .int)).before args s = true) ∨
      (f = 2 ∧ (Cond.methodLink own index Lib.MathLoose.max_long.x).before args s = true ∧ (Cond.static Lib.MathLoose.max_long.x).before args s = true ∧ (Cond.code Lib.MathLoose.max_long.x Lib.MathLoose.max_long.code 4 (some .long)).before args s = true) ∨
      (f = 3 ∧ (Cond.methodLink own index Lib.MathLoose.min_long.x).before args s = true ∧ (Cond.static Lib.MathLoose.min_long.x).before args s = true ∧ (Cond.code Lib.MathLoose.min_long.x Lib.MathLoose.min_long.code 4 (some .long)).before args s = true))
    (hk : mmKS sh tg B b g aC p l e R s m args below meth c H0 D cl nL n0 z0 Qm (pc + 3) k) : mmKS sh tg B b g aC p l e R s m args below meth c H0 D cl nL n0 z0 Qm pc (oMath f k) := by
  intro ls st h H locs lsA hp hA
  have hcnt := hA.2.2.2.2.2
  have hsz : c.maxLocals = lsA.size := by rw [hml]; exact hA.1.1.symm
  match st, hp, hA with
  | ⟨t1, y⟩ :: ⟨t2, x⟩ :: r, hp, hA =>
    have hs := hA.okS
    have hy := mm_head hs
    have hz := mm_head (mm_tail hs)
    rcases hw with ⟨rfl, w1, w2, w3⟩ | ⟨rfl, w1, w2, w3⟩ | ⟨rfl, w1, w2, w3⟩ | ⟨rfl, w1, w2, w3⟩
    · obtain ⟨ht, hp2⟩ := mmG_iff.mp hp
      simp only [Bool.and_eq_true] at ht
      have e1 : t1 = 1 := mm_beq ht.1
      have e2 : t2 = 1 := mm_beq ht.2.1
      have hcat := mm_ble ht.2.2
      subst e1; subst e2
      have hok : mmOk (h 0 0) (1, mMax x y) := by unfold mMax; split <;> assumption
      have h2 := hk ls _ h H locs lsA hp2 (hA.stk (mm_cons hok (mm_tail (mm_tail hs))))
      refine va_mmax hx hb hsz hown w1 w2 hini w3 hR.1 (by rw [mm_cat]; omega) (by omega) (by omega) hd ?_
      have e : (if Int32.ofInt x < Int32.ofInt y then Int32.ofInt y else Int32.ofInt x) = Int32.ofInt (mMax x y) := by
        unfold mMax
        by_cases q : x < y
        · rw [if_pos q, if_pos ((mm_lt32 hz hy).mpr q)]
        · rw [if_neg q, if_neg (fun z => q ((mm_lt32 hz hy).mp z))]
      rw [e]
      exact h2
    · obtain ⟨ht, hp2⟩ := mmG_iff.mp hp
      simp only [Bool.and_eq_true] at ht
      have e1 : t1 = 1 := mm_beq ht.1
      have e2 : t2 = 1 := mm_beq ht.2.1
      have hcat := mm_ble ht.2.2
      subst e1; subst e2
      have hok : mmOk (h 0 0) (1, mMin x y) := by unfold mMin; split <;> assumption
      have h2 := hk ls _ h H locs lsA hp2 (hA.stk (mm_cons hok (mm_tail (mm_tail hs))))
      refine va_mmin hx hb hsz hown w1 w2 hini w3 hR.1 (by rw [mm_cat]; omega) (by omega) (by omega) hd ?_
      have e : (if Int32.ofInt y < Int32.ofInt x then Int32.ofInt y else Int32.ofInt x) = Int32.ofInt (mMin x y) := by
        unfold mMin
        by_cases q : y < x
        · rw [if_pos q, if_pos ((mm_lt32 hy hz).mpr q)]
        · rw [if_neg q, if_neg (fun z => q ((mm_lt32 hy hz).mp z))]
      rw [e]
      exact h2
    · obtain ⟨ht, hp2⟩ := mmG_iff.mp hp
      simp only [Bool.and_eq_true] at ht
      have e1 : t1 = 2 := mm_beq ht.1
      have e2 : t2 = 2 := mm_beq ht.2.1
      have hcat := mm_ble ht.2.2
      subst e1; subst e2
      have hok : mmOk (h 0 0) (2, mMax x y) := by unfold mMax; split <;> assumption
      have h2 := hk ls _ h H locs lsA hp2 (hA.stk (mm_cons hok (mm_tail (mm_tail hs))))
      refine va_mmax_long hx hb hsz hown w1 w2 hini w3 hR.1 (by rw [mm_cat]; omega) (by omega) (by omega) hd ?_
      have e : (if Int64.ofInt y < Int64.ofInt x then Int64.ofInt x else Int64.ofInt y) = Int64.ofInt (mMax x y) := by
        unfold mMax
        by_cases q : x < y
        · rw [if_pos q, if_neg (fun z => by have := (mm_lt64 hy hz).mp z; omega)]
        · rw [if_neg q]
          by_cases q2 : y < x
          · rw [if_pos ((mm_lt64 hy hz).mpr q2)]
          · have : x = y := by omega
            rw [this]
            split <;> rfl
      rw [e]
      exact h2
    · obtain ⟨ht, hp2⟩ := mmG_iff.mp hp
      simp only [Bool.and_eq_true] at ht
      have e1 : t1 = 2 := mm_beq ht.1
      have e2 : t2 = 2 := mm_beq ht.2.1
      have hcat := mm_ble ht.2.2
      subst e1; subst e2
      have hok : mmOk (h 0 0) (2, mMin x y) := by unfold mMin; split <;> assumption
      have h2 := hk ls _ h H locs lsA hp2 (hA.stk (mm_cons hok (mm_tail (mm_tail hs))))
      refine va_mmin_long hx hb hsz hown w1 w2 hini w3 hR.1 (by rw [mm_cat]; omega) (by omega) (by omega) hd ?_
      have e : (if Int64.ofInt y < Int64.ofInt x then Int64.ofInt y else Int64.ofInt x) = Int64.ofInt (mMin x y) := by
        unfold mMin
        by_cases q : y < x
        · rw [if_pos q, if_pos ((mm_lt64 hy hz).mpr q)]
        · rw [if_neg q, if_neg (fun z => q ((mm_lt64 hy hz).mp z))]
      rw [e]
      exact h2
end MR9
end
section
/-! ===== mm: the law itself ===== -/
/-- the heap with which the law begins: nothing made, the next cell is 1 -/
def mmH0 : mmH := fun a b => if a = 0 ∧ b = 0 then 1 else 0
section ML
variable {sh : Int → Nat × Nat} {tg : Nat → Nat → Nat} {aC : Nat → ClassId} {D : va_G} {cl : List vw_C} {tys : List (ClassId × FieldType)} {wn : Nat → Int → Bool} {tb : mmT} {fin : Nat → Nat → Bool} {onm : Nat → String} {mp : Nat → mmM} {yM : Nat → MethodName} {bM : Nat → ByteArray} {lM : Nat → Nat} {rM : Nat → Option FieldType} {TW Ts : List Cond} {bl : Nat → List (List mmOp)} {oM : Nat → Nat × Bool} {pM : Nat → List Nat} {tx : List Int}
/-- a walk of a body whose end is the law's: from its checked blocks; Z: what the end wants -/
theorem mm_law {l : Launch} {p : Program} {e : Env} {R : Room} {s : State} {m : MethodId} {args : Array Value} {below : List Frame} {meth : Method} {c : Code} {nL B b g d Ln ow : Nat} {cc : ByteArray} {xs : Int → Int} {xs' : Nat → Int32} {pcs : List Nat} {blks : List (List mmOp)} {Qm : State → Prop}
    (hF : mmFT sh tg tb fin onm cl mp yM bM lM rM TW) (hM : mmFM tb fin onm mp yM bM lM rM TW bl oM pM) (hcl7 : ∀ x, (sh x).1 < 106) (hl40 : ∀ mi, lM mi ≤ 40) (hnat : nativeFrameWords "java/lang/System" "arraycopy" 5 ≤ 90) (htys : ∀ kd, kd < 6 → tys[kd]? = some (aC kd, mmKt kd))
    (htext : mmTextOk sh tg B b g aC l D cl tb onm TW tx) (hgrid : mmGridOk sh tg B b g aC l D cl tys tb onm TW)
    (hx : p.tables.exec = Jvm.exec) (hb : c.code = cc) (hml : c.maxLocals = nL) (hown : s.vm.findClass (onm ow) = some m.cls) (hts : ∀ w ∈ Ts, w.before args s = true) (hTW : ∀ w ∈ TW, w ∈ Ts) (hKA : mmKA D cl tys s) (hRm : d + 7 ≤ R.frames ∧ 80 * d + 200 ≤ R.locals)
    (hX : va_X b Ln xs' s s.heap) (hbl : b < s.heap.size) (hB : s.heap.size = B + 1) (hL2 : Ln < 2147483648) (hxs : ∀ j : Nat, j < Ln → xs j = (xs' j).toInt)
    (hchk : mmChk tb fin ow false true 4 cc pcs blks = true) (hargs : args = #[.ref b]) (hnL : 1 ≤ nL)
    (hend : ∀ (pc : Nat) (H : Heap) (locs : List Loc) (lsA : Array Slot) (n z : Nat), decode cc pc = .ok (.ireturn, 1) → (∀ q ∈ locs, s.heap.size ≤ q.base) → n ≤ R.cells → z ≤ R.slots → W p l e R s m args below meth c H locs n z Qm (F0 m pc lsA [.int 1]))
    (hpure : mmWb sh tg (fun _ _ => none) mp tx (mmC sh tg (fun _ _ => none) wn mp bl lM tx d) (fun x _ => x = 1) (wn 0) blks 1 0 (R.cells : Int) (R.slots : Int) (Ln : Int) xs 0 ((4, 0) :: List.replicate (nL - 1) (0, 0)) [] mmH0) :
    W p l e R s m args below meth c s.heap [] 0 0 Qm (entryFrame m args nL) := by
  subst hargs
  have hbB : b ≤ B := by omega
  have hl := lv_entry ([.ref b]) (n := nL) (show (lg_sl [Value.ref b]).length ≤ nL from hnL)
  rw [show (#[Value.ref b] : Array Value) = ([Value.ref b] : List Value).toArray from rfl, lg_entry_eq]
  generalize (lg_sl ([.ref b]) ++ List.replicate (nL - (lg_sl ([.ref b])).length) Slot.unset).toArray = lsA at hl ⊢
  simp only [mmChk, Bool.and_eq_true, decide_eq_true_eq] at hchk
  obtain ⟨c1, c2, c3⟩ := hchk
  have hC : mmCx meth.name true ow 4 aC p l R s m ([Value.ref b] : List Value).toArray meth c D cl nL B b cc tys onm TW Ts (R.cells : Int) (R.slots : Int) (Ln : Int) xs s.heap sh :=
    ⟨hx, hb, hml, hown, hts, hTW, hKA, htys, rfl, rfl, ⟨by omega, by omega, by omega⟩, rfl, fun _ => ⟨Ln, xs', hX, hbl, hbB, rfl, hL2, hxs⟩, hcl7⟩
  have key := hpure (fun i ls st h' => ∀ (H : Heap) (locs : List Loc) (lsB : Array Slot), mmIn sh tg B b g aC R s.heap D cl nL 1 0 ls st h' H locs lsB →
    W p l e R s m ([Value.ref b] : List Value).toArray below meth c H locs ((h' 0 0).toNat - 1) ((h' 0 1).toNat - 0) Qm (F0 m (pcs.getD i 0) lsB (st.map (mmVal B b g)))) ?_
  · have e00 : mmH0 0 0 = 1 := rfl
    have e01 : mmH0 0 1 = 0 := rfl
    have := key s.heap [] lsA ⟨?_, ?_, ?_, fun v hv => (by cases hv), ⟨?_, by rw [e00, hB]; rfl, va_S.rf, ?_⟩, ?_, ?_, ?_, ?_⟩
    · have e0 : pcs.getD 0 0 = 0 := by rw [List.getD_eq_getElem?_getD, c1]; rfl
      rw [e0, e00, e01] at this
      exact this
    · refine lv_less hl fun q hq => ?_
      obtain ⟨i, w⟩ := q
      obtain ⟨q1, q2, rfl⟩ := (mmLv_in B b g).mp hq
      cases i with
      | zero => exact List.mem_cons_self
      | succ i =>
        exfalso; apply q2
        rw [List.getD_cons_succ, List.getD_eq_getElem?_getD, List.getElem?_replicate]
        split <;> rfl
    · simp; omega
    · intro v hv
      rcases List.mem_cons.mp hv with q | q
      · rw [q]; trivial
      · rw [(List.mem_replicate.mp q).2]; trivial
    · intro k q hq
      have : (mmWs sh tg B b g aC mmH0) = [] := by
        unfold mmWs
        rw [e00]
        rfl
      rw [this] at hq
      simp at hq
    · refine ⟨by rw [e00]; omega, by rw [e01]; omega, fun k k1 k2 => ?_⟩
      rw [e00] at k2
      omega
    · rw [e00]; omega
    · rw [e01]; omega
    · rw [e00]; exact Nat.zero_le _
    · rw [e01]; exact Nat.zero_le _
  · intro i ls st h' hex H locs lsB hin
    by_cases hi : i < blks.length
    · have hci := List.all_eq_true.mp c3 i (List.mem_range.mpr (by omega))
      refine ks_blk (n0 := 1) (z0 := 0) (rmM := mmRm mp d) (isInit := false) (nm := meth.name) hF hC (fun q => by cases q) (fun mi' as' h'' Qc hk => mm_sound hF hM hcl7 hl40 hnat htys htext hgrid d mi' as' h'' Qc hk) (fun mi' => ⟨rfl, rfl, by show d + 5 + 1 ≤ R.frames; omega, by have := hl40 mi'; show 8 + (lM mi' + 11) + (80 * d + 120) ≤ R.locals; omega⟩) ?_ (htext p e _ s m _ below meth c _ _ _ _ _ _ hx hb hown (fun w hw => hts w (hTW w hw)) hml ⟨by omega, by omega⟩) (hgrid p e _ s m _ below meth c _ _ _ _ _ _ hx hb hown (fun w hw => hts w (hTW w hw)) hKA) (fun bl' ls st h H locs lsA q hA => q H locs lsA hA) _ _ hci ls st h' H locs lsB hex hin
      intro pc' hd
      have hd : decode cc pc' = .ok (.ireturn, 1) := by
        rcases hd with ⟨d1, d2⟩ | ⟨d1, d2⟩ | ⟨d1, d2⟩ | ⟨d1, d2⟩ | ⟨d1, d2⟩ <;> first
          | (exfalso; omega)
          | exact d2
      intro ls st h H locs lsA hp hA
      match st, hp, hA with
      | [⟨t, x⟩], hp, hA =>
        obtain ⟨ht, hp⟩ := mmG_iff.mp hp
        obtain ⟨-, hp2⟩ := mmD_iff.mp hp
        have e1 : t = 1 := mm_beq ht
        subst e1
        have hp3 : x = 1 := hp2
        subst hp3
        have hcnt := hA.2.2.2.2.2
        have hS := hA.wh.2.2.1.2.2
        exact hend pc' H locs lsA _ _ hd (fun q hq => by have := hS q hq; unfold mmA at this; omega) (by omega) (by omega)
    · rw [List.getD_eq_getElem?_getD, List.getElem?_eq_none (by omega)] at hex
      exact hex.elim
end ML
end
section
/-! ===== mm: a long block's check in pieces ===== -/
def mmChkP (tb : mmT) (fin : Nat → Nat → Bool) (ow : Nat) (isInit sc : Bool) (rt : Nat) (cc : ByteArray) (pcs : List Nat) : Nat → List mmOp → Option Nat
  | pc, [] => some pc
  | pc, op :: ops => match decode cc pc with
    | .ok q => bif (mmCand tb fin ow isInit sc rt pcs pc op).any (fun z => decide (q = z)) then mmChkP tb fin ow isInit sc rt cc pcs (pc + q.2) ops else none
    | _ => none
theorem mmChkP_app {tb : mmT} {fin : Nat → Nat → Bool} {ow : Nat} {isInit sc : Bool} {rt : Nat} {cc : ByteArray} {pcs : List Nat} {b : List mmOp} : ∀ (a : List mmOp) (pc pc' : Nat), mmChkP tb fin ow isInit sc rt cc pcs pc a = some pc' → mmChkB tb fin ow isInit sc rt cc pcs pc' b = true → mmChkB tb fin ow isInit sc rt cc pcs pc (a ++ b) = true
  | [], pc, pc', h, hb => by
    simp only [mmChkP, Option.some.injEq] at h
    rw [h]
    exact hb
  | op :: ops, pc, pc', h, hb => by
    unfold mmChkP at h
    rw [List.cons_append]
    unfold mmChkB
    cases hd : decode cc pc with
    | error z => rw [hd] at h; simp at h
    | ok q =>
      rw [hd] at h
      simp only [] at h ⊢
      cases hc : (mmCand tb fin ow isInit sc rt pcs pc op).any (fun z => decide (q = z)) with
      | false => rw [hc] at h; simp at h
      | true =>
        rw [hc] at h
        simp only [cond_true] at h
        rw [mmChkP_app ops _ _ h hb]
        simp
theorem mmChk_of {tb : mmT} {fin : Nat → Nat → Bool} {ow : Nat} {isInit sc : Bool} {rt : Nat} {cc : ByteArray} {pcs : List Nat} {blks : List (List mmOp)} (h0 : pcs[0]? = some 0) (hl : pcs.length = blks.length) (h : ∀ b, b < pcs.length → mmChkB tb fin ow isInit sc rt cc pcs (pcs.getD b 0) (blks.getD b []) = true) : mmChk tb fin ow isInit sc rt cc pcs blks = true := by
  simp only [mmChk, Bool.and_eq_true, decide_eq_true_eq]
  exact ⟨h0, hl, List.all_eq_true.mpr fun b hb => h b (List.mem_range.mp hb)⟩
end
section
/-! ===== mm: more is more ===== -/
section MMo
variable {sh : Int → Nat × Nat} {tg : Nat → Nat → Nat} {fc : Int → Int → Option Int} {wn : Int → Bool} {mp : Nat → mmM}
theorem mmG_mono {b : Bool} {P P' : Prop} (h : P → P') : mmG b P → mmG b P' := fun q => mmG_iff.mpr ⟨(mmG_iff.mp q).1, h (mmG_iff.mp q).2⟩
theorem mmTsw_mono {x : Int} {F F' : Nat → Prop} (h : ∀ b, F b → F' b) : ∀ (ts : List Int) (lo : Int), mmTsw x lo ts F → mmTsw x lo ts F'
  | [], _, _ => trivial
  | t :: ts, lo, q => ⟨fun e => h _ (q.1 e), mmTsw_mono h ts (lo + 1) q.2⟩
theorem mmLsw_mono {x : Int} {F F' : Nat → Prop} {D D' : Prop} (h : ∀ b, F b → F' b) (hD : D → D') : ∀ (ts : List Int), mmLsw x ts F D → mmLsw x ts F' D'
  | [], q => hD q
  | [_], q => hD q
  | k :: t :: r, q => ⟨fun e => h _ (q.1 e), fun e => mmLsw_mono h hD r (q.2 e)⟩
variable {K K' : Nat → List Int → mmH → (Int → mmH → Prop) → Prop} {Q Q' : Int → mmH → Prop} {X X' : Nat → mmKont} {n0 z0 mc ms L : Int} {xs : Int → Int} {tx : List Int}
/-- J: what is known of every heap that is met -/
theorem mmStep_mono (hK : ∀ m as h (P P' : Int → mmH → Prop), (∀ x h', P x h' → P' x h') → K m as h P → K' m as h P') (hQ : ∀ x h, Q x h → Q' x h) (hX : ∀ i ls st h, X i ls st h → X' i ls st h) (o : Nat) (a : Int) (l : List Int) {k k' : mmKont} (hk : ∀ ls st h, k ls st h → k' ls st h) (ls st : List mmV) (h : mmH) :
    mmStep sh tg fc wn mp K Q X n0 z0 mc ms L xs tx o a l k ls st h → mmStep sh tg fc wn mp K' Q' X' n0 z0 mc ms L xs tx o a l k' ls st h := by
  intro q
  match o, q with
  | 0, q => exact hk _ _ _ q
  | 1, q => exact mmG_mono (hk _ _ _) q
  | 2, q =>
    match st, q with
    | v :: r, q => exact mmG_mono (hk _ _ _) q
  | 3, q => exact mmG_mono (hk _ _ _) q
  | 4, q =>
    match st, q with
    | b :: c :: r, q => exact mmG_mono (hk _ _ _) q
  | 5, q =>
    match st, q with
    | b :: c :: r, q => exact mmG_mono (hk _ _ _) q
  | 6, q =>
    match st, q with
    | b :: c :: r, q =>
      show oDv a.toNat k' ls (b :: c :: r) h
      have q : oDv a.toNat k ls (b :: c :: r) h := q
      unfold oDv at q ⊢
      simp only [] at q ⊢
      split at q <;> exact mmG_mono (mmG_mono (hk _ _ _)) q
  | 7, q =>
    match st, q with
    | c :: r, q =>
      show oCv a.toNat k' ls (c :: r) h
      have q : oCv a.toNat k ls (c :: r) h := q
      unfold oCv at q ⊢
      simp only [] at q ⊢
      split at q <;> exact mmG_mono (hk _ _ _) q
  | 8, q =>
    match st, q with
    | b :: c :: r, q => exact mmG_mono (hk _ _ _) q
  | 9, q =>
    show oStk a.toNat k' ls st h
    have q : oStk a.toNat k ls st h := q
    unfold oStk at q ⊢
    split at q
    · match st, q with
      | b :: r, q => exact mmG_mono (hk _ _ _) q
    · match st, q with
      | b :: c :: r, q => exact mmG_mono (hk _ _ _) q
    · match st, q with
      | b :: r, q => exact mmG_mono (hk _ _ _) q
  | 10, q =>
    match st, q with
    | v :: r, q => exact mmG_mono (mmG_mono (hk _ _ _)) q
  | 11, q =>
    match st, q with
    | w :: v :: r, q => exact mmG_mono (mmG_mono (hk _ _ _)) q
  | 12, q =>
    match st, q with
    | w :: v :: r, q => exact mmG_mono (mmG_mono (mmG_mono (hk _ _ _))) q
  | 13, q =>
    match st, q with
    | z :: w :: v :: r, q => exact mmG_mono (mmG_mono (mmG_mono (mmG_mono (hk _ _ _)))) q
  | 14, q =>
    match st, q with
    | v :: r, q => exact mmG_mono (mmG_mono (hk _ _ _)) q
  | 15, q =>
    match st, q with
    | v :: r, q => exact mmG_mono (fun z => ⟨fun e => hX _ _ _ _ (z.1 e), fun e => hk _ _ _ (z.2 e)⟩) q
  | 16, q =>
    match st, q with
    | w :: v :: r, q => exact mmG_mono (fun z => ⟨fun e => hX _ _ _ _ (z.1 e), fun e => hk _ _ _ (z.2 e)⟩) q
  | 17, q => exact hX _ _ _ _ q
  | 18, q =>
    match st, l, q with
    | v :: r, d :: ts, q => exact mmG_mono (fun z => ⟨mmTsw_mono (fun b => hX _ _ _ _) ts a z.1, fun e => hX _ _ _ _ (z.2 e)⟩) q
    | v :: r, [], q => exact q
  | 19, q =>
    match st, l, q with
    | v :: r, d :: ts, q => exact mmG_mono (mmLsw_mono (fun b => hX _ _ _ _) (hX _ _ _ _) ts) q
    | v :: r, [], q => exact q
  | 20, q =>
    show oRet Q' a.toNat ls st h
    have q : oRet Q a.toNat ls st h := q
    unfold oRet at q ⊢
    split at q
    · match st, q with
      | [], q => exact hQ _ _ q
    · match st, q with
      | [v], q => exact mmG_mono (mmG_mono (hQ _ _)) q
    · match st, q with
      | [v], q => exact mmG_mono (hQ _ _) q
  | 21, q =>
    show oCall sh mp K' n0 z0 mc ms a.toNat k' ls st h
    have q : oCall sh mp K n0 z0 mc ms a.toNat k ls st h := q
    unfold oCall at q ⊢
    split at q
    · exact q.elim
    · exact mmG_mono (mmG_mono (mmG_mono (hK _ _ _ _ _ (fun x h' => hk _ _ _)))) q
  | 22, q => exact ⟨q.1, q.2.1, hk _ _ _ q.2.2⟩
  | 23, q =>
    match st, q with
    | v :: r, q => exact mmG_mono (fun z => ⟨z.1, z.2.1, hk _ _ _ z.2.2⟩) q
  | 24, q =>
    match st, q with
    | w :: v :: r, q => exact mmG_mono (fun z => ⟨z.1, z.2.1, z.2.2.1, z.2.2.2.1, hk _ _ _ z.2.2.2.2⟩) q
  | 25, q =>
    match st, q with
    | n :: dp :: b :: sp :: c :: r, q => exact mmG_mono (mmG_mono (mmG_mono (hk _ _ _))) q
  | 26, q =>
    match st, q with
    | v :: r, q => exact mmG_mono (mmG_mono (hk _ _ _)) q
  | 27, q =>
    match st, q with
    | w :: v :: r, q => exact mmG_mono (fun z => ⟨z.1, hk _ _ _ z.2⟩) q
  | 28, q =>
    match st, q with
    | v :: r, q => exact mmG_mono (hk _ _ _) q
  | 29, q =>
    match st, q with
    | v :: r, q => exact mmG_mono (hk _ _ _) q
  | 30, q =>
    match st, q with
    | w :: v :: r, q => exact mmG_mono (fun z => ⟨z.1, hk _ _ _ z.2⟩) q
  | 31, q =>
    match st, q with
    | b :: c :: r, q =>
      show oMath a.toNat k' ls (b :: c :: r) h
      have q : oMath a.toNat k ls (b :: c :: r) h := q
      unfold oMath at q ⊢
      simp only [] at q ⊢
      split at q <;> first
        | exact mmG_mono (hk _ _ _) q
        | exact mmG_mono (mmG_mono (hk _ _ _)) q
  | n + 32, q => exact q
theorem mmEx_mono (hK : ∀ m as h (P P' : Int → mmH → Prop), (∀ x h', P x h' → P' x h') → K m as h P → K' m as h P') (hQ : ∀ x h, Q x h → Q' x h) (hX : ∀ i ls st h, X i ls st h → X' i ls st h) : ∀ (ops : List mmOp) (ls st : List mmV) (h : mmH),
    mmEx sh tg fc wn mp K Q X n0 z0 mc ms L xs tx ops ls st h → mmEx sh tg fc wn mp K' Q' X' n0 z0 mc ms L xs tx ops ls st h
  | [], _, _, _, q => q
  | op :: ops, ls, st, h, q => mmStep_mono hK hQ hX op.1 op.2.1 op.2.2 (fun ls st h => mmEx_mono hK hQ hX ops ls st h) ls st h q
end MMo
section MMw
variable {sh : Int → Nat × Nat} {tg : Nat → Nat → Nat} {fc : Int → Int → Option Int} {mp : Nat → mmM} {tx : List Int}
variable {K : Nat → List Int → mmH → (Int → mmH → Prop) → Prop} {Q Q' : Int → mmH → Prop} {w : Int → Bool} {blks : List (List mmOp)} {n0 z0 mc ms L : Int} {xs : Int → Int}
theorem mmWb_mono (hQ : ∀ x h, Q x h → Q' x h) (hK : ∀ m as h (P P' : Int → mmH → Prop), (∀ x h', P x h' → P' x h') → K m as h P → K m as h P') {i : Nat} {ls st : List mmV} {h : mmH} (q : mmWb sh tg fc mp tx K Q w blks n0 z0 mc ms L xs i ls st h) : mmWb sh tg fc mp tx K Q' w blks n0 z0 mc ms L xs i ls st h :=
  fun X hX => q X fun i ls st h z => hX i ls st h (mmEx_mono (K := K) (K' := K) hK hQ (fun _ _ _ _ y => y) _ _ _ _ z)
theorem mmWb_fold (hK : ∀ m as h (P P' : Int → mmH → Prop), (∀ x h', P x h' → P' x h') → K m as h P → K m as h P') {i : Nat} {ls st : List mmV} {h : mmH} (q : mmEx sh tg fc w mp K Q (mmWb sh tg fc mp tx K Q w blks n0 z0 mc ms L xs) n0 z0 mc ms L xs tx (blks.getD i []) ls st h) : mmWb sh tg fc mp tx K Q w blks n0 z0 mc ms L xs i ls st h :=
  fun X hX => hX i ls st h (mmEx_mono (K := K) (K' := K) hK (fun _ _ y => y) (fun j ls st h z => z X hX) _ _ _ _ q)
/-- blocks unrolled, but at cuts -/
def mmXn (sh : Int → Nat × Nat) (tg : Nat → Nat → Nat) (fc : Int → Int → Option Int) (mp : Nat → mmM) (tx : List Int) (K : Nat → List Int → mmH → (Int → mmH → Prop) → Prop) (Q : Int → mmH → Prop) (w : Int → Bool) (blks : List (List mmOp)) (n0 z0 mc ms L : Int) (xs : Int → Int) (cut : Nat → Bool) : Nat → Nat → mmKont
  | 0, i => mmWb sh tg fc mp tx K Q w blks n0 z0 mc ms L xs i
  | f + 1, i => match cut i with
    | true => mmWb sh tg fc mp tx K Q w blks n0 z0 mc ms L xs i
    | false => mmEx sh tg fc w mp K Q (mmXn sh tg fc mp tx K Q w blks n0 z0 mc ms L xs cut f) n0 z0 mc ms L xs tx (blks.getD i [])
theorem mmXn_ok (hK : ∀ m as h (P P' : Int → mmH → Prop), (∀ x h', P x h' → P' x h') → K m as h P → K m as h P') {cut : Nat → Bool} : ∀ (f i : Nat) (ls st : List mmV) (h : mmH), mmXn sh tg fc mp tx K Q w blks n0 z0 mc ms L xs cut f i ls st h → mmWb sh tg fc mp tx K Q w blks n0 z0 mc ms L xs i ls st h
  | 0, i, ls, st, h, q => q
  | f + 1, i, ls, st, h, q => by
    unfold mmXn at q
    cases e : cut i with
    | true => rw [e] at q; exact q
    | false =>
      rw [e] at q
      exact mmWb_fold hK (mmEx_mono (K := K) (K' := K) hK (fun _ _ y => y) (fun j ls st h z => mmXn_ok hK f j ls st h z) _ _ _ _ q)
variable {wn : Nat → Int → Bool} {bl : Nat → List (List mmOp)} {nl : Nat → Nat}
theorem mmC_mono : ∀ (d m : Nat) (as : List Int) (h : mmH) (P P' : Int → mmH → Prop), (∀ x h', P x h' → P' x h') → mmC sh tg fc wn mp bl nl tx d m as h P → mmC sh tg fc wn mp bl nl tx d m as h P'
  | 0, _, _, _, _, _, _, q => q
  | d + 1, m, as, h, P, P', hp, q => mmWb_mono (fun x h' z => ⟨z.1, hp x h' z.2⟩) (mmC_mono d) q
theorem mmC_succ : ∀ (d m : Nat) (as : List Int) (h : mmH) (P : Int → mmH → Prop), mmC sh tg fc wn mp bl nl tx d m as h P → mmC sh tg fc wn mp bl nl tx (d + 1) m as h P
  | 0, _, _, _, _, q => q.elim
  | d + 1, m, as, h, P, q => fun X hX => q X fun i ls st h z => hX i ls st h (mmEx_mono (fun m as h P P' hp y => mmC_mono (d + 1) m as h P P' hp (mmC_succ d m as h P y)) (fun _ _ y => y) (fun _ _ _ _ y => y) _ _ _ _ z)
theorem mmC_le {d d' m : Nat} {as : List Int} {h : mmH} {P : Int → mmH → Prop} (hd : d ≤ d') (q : mmC sh tg fc wn mp bl nl tx d m as h P) : mmC sh tg fc wn mp bl nl tx d' m as h P := by
  obtain ⟨k, rfl⟩ := Nat.exists_eq_add_of_le hd
  induction k with
  | zero => exact q
  | succ k ih => exact mmC_succ _ _ _ _ _ (ih (by omega))
end MMw
end
section
/-! ===== mm: where nothing is made: known slots are read as what they hold, only one side's cells are written ===== -/
section MRr
variable {sh : Int → Nat × Nat} {tg : Nat → Nat → Nat} {fc : Int → Int → Option Int} {w : Int → Bool} {mp : Nat → mmM}
def mmInv (fc : Int → Int → Option Int) (h : mmH) : Prop := ∀ k i c, fc k i = some c → h k i = c
/-- what holds of every heap on the way: the known slots, the other side's cells as they were -/
def mmJ (fc : Int → Int → Option Int) (w : Int → Bool) (hs h : mmH) : Prop := mmInv fc h ∧ ∀ k, w k = false → h k = hs k
theorem mmJ.get {hs h : mmH} (hJ : mmJ fc w hs h) (k i : Int) : (fc k i).getD (h k i) = h k i := by
  cases e : fc k i with
  | none => rfl
  | some c => exact (hJ.1 k i c e).symm
theorem mmJ.put {hs h : mmH} {k i v : Int} (hJ : mmJ fc w hs h) (hw : w k = true) (hf : (fc k i).isNone = true) : mmJ fc w hs (mmS h k i v) := by
  refine ⟨fun a b c e => ?_, fun a ha => ?_⟩
  · have h1 := hJ.1 a b c e
    unfold mmS
    by_cases ea : a = k
    · rw [if_pos ea]
      by_cases eb : b = i
      · subst ea; subst eb
        rw [e] at hf
        cases hf
      · rw [if_neg eb]; exact h1
    · rw [if_neg ea]; exact h1
  · rw [← hJ.2 a ha]
    funext b
    have : a ≠ k := fun e => by rw [e, hw] at ha; cases ha
    exact mmS_cell this
variable {K K' : Nat → List Int → mmH → (Int → mmH → Prop) → Prop} {Q Q' : Int → mmH → Prop} {X X' : Nat → mmKont} {n0 z0 L : Int} {xs : Int → Int} {tx : List Int} {hs : mmH}
theorem mmStep_run (h0 : w 0 = false) (hn0 : hs 0 0 = n0) (hfc : ∀ k i, (sh k).1 = 100 → fc k i = none)
    (hK : ∀ m as h (P P' : Int → mmH → Prop), mmJ fc w hs h → (∀ x h', mmJ fc w hs h' → P' x h' → P x h') → K' m as h P' → K m as h P) (hQ : ∀ x h, mmJ fc w hs h → Q' x h → Q x h) (hX : ∀ i ls st h, mmJ fc w hs h → X' i ls st h → X i ls st h) (o : Nat) (a : Int) (l : List Int) {k k' : mmKont} (hk : ∀ ls st h, mmJ fc w hs h → k' ls st h → k ls st h) (ls st : List mmV) (h : mmH) (hJ : mmJ fc w hs h) :
    mmStep sh tg fc w mp K' Q' X' n0 z0 0 0 L xs tx o a l k' ls st h → mmStep sh tg (fun _ _ => none) w mp K Q X n0 z0 0 0 L xs tx o a l k ls st h := by
  intro q
  have hh0 : h 0 0 = n0 := by rw [hJ.2 0 h0]; exact hn0
  match o, q with
  | 0, q => exact hk _ _ _ hJ q
  | 1, q => exact mmG_mono (hk _ _ _ hJ) q
  | 2, q =>
    match st, q with
    | v :: r, q => exact mmG_mono (hk _ _ _ hJ) q
  | 3, q => exact mmG_mono (hk _ _ _ hJ) q
  | 4, q =>
    match st, q with
    | b :: c :: r, q => exact mmG_mono (hk _ _ _ hJ) q
  | 5, q =>
    match st, q with
    | b :: c :: r, q => exact mmG_mono (hk _ _ _ hJ) q
  | 6, q =>
    match st, q with
    | b :: c :: r, q =>
      show oDv a.toNat k ls (b :: c :: r) h
      have q : oDv a.toNat k' ls (b :: c :: r) h := q
      unfold oDv at q ⊢
      simp only [] at q ⊢
      split at q <;> exact mmG_mono (mmG_mono (hk _ _ _ hJ)) q
  | 7, q =>
    match st, q with
    | c :: r, q =>
      show oCv a.toNat k ls (c :: r) h
      have q : oCv a.toNat k' ls (c :: r) h := q
      unfold oCv at q ⊢
      simp only [] at q ⊢
      split at q <;> exact mmG_mono (hk _ _ _ hJ) q
  | 8, q =>
    match st, q with
    | b :: c :: r, q => exact mmG_mono (hk _ _ _ hJ) q
  | 9, q =>
    show oStk a.toNat k ls st h
    have q : oStk a.toNat k' ls st h := q
    unfold oStk at q ⊢
    split at q
    · match st, q with
      | b :: r, q => exact mmG_mono (hk _ _ _ hJ) q
    · match st, q with
      | b :: c :: r, q => exact mmG_mono (hk _ _ _ hJ) q
    · match st, q with
      | b :: r, q => exact mmG_mono (hk _ _ _ hJ) q
  | 10, q =>
    match st, q with
    | v :: r, q =>
      refine mmG_mono (mmG_mono (fun z => ?_)) q
      rw [hJ.get] at z
      exact hk _ _ _ hJ z
  | 11, q =>
    match st, q with
    | u :: v :: r, q =>
      refine mmG_mono (fun z => ?_) q
      obtain ⟨z1, z2⟩ := mmG_iff.mp z
      simp only [Bool.and_eq_true] at z1
      refine mmG_iff.mpr ⟨?_, hk _ _ _ (hJ.put z1.2.1 z1.2.2) z2⟩
      rw [z1.1, z1.2.1]
      rfl
  | 12, q =>
    match st, q with
    | u :: v :: r, q =>
      refine mmG_mono (mmG_mono (mmG_mono (fun z => ?_))) q
      rw [hJ.get] at z
      exact hk _ _ _ hJ z
  | 13, q =>
    match st, q with
    | t :: u :: v :: r, q =>
      refine mmG_mono (fun z => ?_) q
      obtain ⟨z1, z2⟩ := mmG_iff.mp z
      simp only [Bool.and_eq_true] at z1
      refine mmG_iff.mpr ⟨?_, mmG_mono (mmG_mono (hk _ _ _ (hJ.put z1.2.1 z1.2.2))) z2⟩
      rw [z1.1, z1.2.1]
      rfl
  | 14, q =>
    match st, q with
    | v :: r, q => exact mmG_mono (mmG_mono (hk _ _ _ hJ)) q
  | 15, q =>
    match st, q with
    | v :: r, q => exact mmG_mono (fun z => ⟨fun e => hX _ _ _ _ hJ (z.1 e), fun e => hk _ _ _ hJ (z.2 e)⟩) q
  | 16, q =>
    match st, q with
    | u :: v :: r, q => exact mmG_mono (fun z => ⟨fun e => hX _ _ _ _ hJ (z.1 e), fun e => hk _ _ _ hJ (z.2 e)⟩) q
  | 17, q => exact hX _ _ _ _ hJ q
  | 18, q =>
    match st, l, q with
    | v :: r, d :: ts, q => exact mmG_mono (fun z => ⟨mmTsw_mono (fun b => hX _ _ _ _ hJ) ts a z.1, fun e => hX _ _ _ _ hJ (z.2 e)⟩) q
    | v :: r, [], q => exact q
  | 19, q =>
    match st, l, q with
    | v :: r, d :: ts, q => exact mmG_mono (mmLsw_mono (fun b => hX _ _ _ _ hJ) (hX _ _ _ _ hJ) ts) q
    | v :: r, [], q => exact q
  | 20, q =>
    show oRet Q a.toNat ls st h
    have q : oRet Q' a.toNat ls st h := q
    unfold oRet at q ⊢
    split at q
    · match st, q with
      | [], q => exact hQ _ _ hJ q
    · match st, q with
      | [v], q => exact mmG_mono (mmG_mono (hQ _ _ hJ)) q
    · match st, q with
      | [v], q => exact mmG_mono (hQ _ _ hJ) q
  | 21, q =>
    show oCall sh mp K n0 z0 0 0 a.toNat k ls st h
    have q : oCall sh mp K' n0 z0 0 0 a.toNat k' ls st h := q
    unfold oCall at q ⊢
    split at q
    · exact q.elim
    · exact mmG_mono (mmG_mono (mmG_mono (hK _ _ _ _ _ hJ (fun x h' hJ' => hk _ _ _ hJ')))) q
  | 22, q =>
    have := q.2.1.1
    omega
  | 23, q =>
    match st, q with
    | v :: r, q =>
      have := ((mmG_iff.mp q).2).2.1.1
      omega
  | 24, q =>
    match st, q with
    | u :: v :: r, q =>
      have z := (mmG_iff.mp q).2
      have z1 := z.1.2.1
      have z2 := z.2.2.2.1.1
      omega
  | 25, q =>
    match st, q with
    | n :: dp :: b :: sp :: c :: r, q =>
      refine mmG_mono (fun z => ?_) q
      obtain ⟨z1, z2⟩ := mmG_iff.mp z
      refine mmG_iff.mpr ⟨z1, mmG_mono (hk _ _ _ ?_) z2⟩
      simp only [Bool.and_eq_true] at z1
      have hb := mm_beq z1.2.1
      refine ⟨fun x i cc e => ?_, fun x hx => ?_⟩
      · unfold mmCpy
        by_cases ex : x = b.2
        · rw [ex, hfc _ _ hb] at e; cases e
        · rw [if_neg ex]; exact hJ.1 x i cc e
      · rw [← hJ.2 x hx]
        funext i
        unfold mmCpy
        rw [if_neg (fun e => by rw [e, z1.2.2] at hx; cases hx)]
  | 26, q =>
    match st, q with
    | v :: r, q => exact mmG_mono (mmG_mono (hk _ _ _ hJ)) q
  | 27, q =>
    match st, q with
    | u :: v :: r, q => exact mmG_mono (fun z => ⟨z.1, hk _ _ _ hJ z.2⟩) q
  | 28, q =>
    match st, q with
    | v :: r, q => exact mmG_mono (hk _ _ _ hJ) q
  | 29, q =>
    match st, q with
    | v :: r, q => exact mmG_mono (hk _ _ _ hJ) q
  | 30, q =>
    match st, q with
    | u :: v :: r, q => exact mmG_mono (fun z => ⟨z.1, hk _ _ _ hJ z.2⟩) q
  | 31, q =>
    match st, q with
    | b :: c :: r, q =>
      show oMath a.toNat k ls (b :: c :: r) h
      have q : oMath a.toNat k' ls (b :: c :: r) h := q
      unfold oMath at q ⊢
      simp only [] at q ⊢
      split at q <;> first
        | exact mmG_mono (hk _ _ _ hJ) q
        | exact mmG_mono (mmG_mono (hk _ _ _ hJ)) q
  | n + 32, q => exact q
theorem mmEx_run (h0 : w 0 = false) (hn0 : hs 0 0 = n0) (hfc : ∀ k i, (sh k).1 = 100 → fc k i = none)
    (hK : ∀ m as h (P P' : Int → mmH → Prop), mmJ fc w hs h → (∀ x h', mmJ fc w hs h' → P' x h' → P x h') → K' m as h P' → K m as h P) (hQ : ∀ x h, mmJ fc w hs h → Q' x h → Q x h) (hX : ∀ i ls st h, mmJ fc w hs h → X' i ls st h → X i ls st h) : ∀ (ops : List mmOp) (ls st : List mmV) (h : mmH), mmJ fc w hs h →
    mmEx sh tg fc w mp K' Q' X' n0 z0 0 0 L xs tx ops ls st h → mmEx sh tg (fun _ _ => none) w mp K Q X n0 z0 0 0 L xs tx ops ls st h
  | [], _, _, _, _, q => q
  | op :: ops, ls, st, h, hJ, q => mmStep_run h0 hn0 hfc hK hQ hX op.1 op.2.1 op.2.2 (fun ls st h hJ z => mmEx_run h0 hn0 hfc hK hQ hX ops ls st h hJ z) ls st h hJ q
end MRr
section MRc
variable (sh : Int → Nat × Nat) (tg : Nat → Nat → Nat) (fc : Int → Int → Option Int) (wn : Nat → Int → Bool) (mp : Nat → mmM) (bl : Nat → List (List mmOp)) (nl : Nat → Nat) (tx : List Int)
/-- a method's calls: of its own side, or pure -/
def mmKm (K : Nat → List Int → mmH → (Int → mmH → Prop) → Prop) (mi : Nat) : Nat → List Int → mmH → (Int → mmH → Prop) → Prop := fun mj as h P => mmG (Nat.beq (mp mj).2.2.2.2.2 (mp mi).2.2.2.2.2 || Nat.beq (mp mj).2.2.2.2.2 3) (K mj as h P)
/-- a method where nothing is made -/
def mmRC : Nat → Nat → List Int → mmH → (Int → mmH → Prop) → Prop
  | 0, _, _, _, _ => False
  | d + 1, mi, as, h, Q => mmWb sh tg fc mp tx (mmKm mp (mmRC d) mi) Q (wn (mp mi).2.2.2.2.2) (bl mi) (h 0 0) (h 0 1) 0 0 0 (fun _ => 0) 0 (mmIl (mp mi).1.reverse as (nl mi)) [] h
end MRc
section MRd
variable {sh : Int → Nat × Nat} {tg : Nat → Nat → Nat} {fc : Int → Int → Option Int} {wn : Nat → Int → Bool} {mp : Nat → mmM} {bl : Nat → List (List mmOp)} {nl : Nat → Nat} {tx : List Int}
theorem mmKm_mono {K K' : Nat → List Int → mmH → (Int → mmH → Prop) → Prop} {mi m : Nat} {as : List Int} {h : mmH} {P P' : Int → mmH → Prop} (hK : K m as h P → K' m as h P') (q : mmKm mp K mi m as h P) : mmKm mp K' mi m as h P' := mmG_mono hK q
theorem mmRC_mono : ∀ (d m : Nat) (as : List Int) (h : mmH) (P P' : Int → mmH → Prop), (∀ x h', P x h' → P' x h') → mmRC sh tg fc wn mp bl nl tx d m as h P → mmRC sh tg fc wn mp bl nl tx d m as h P'
  | 0, _, _, _, _, _, _, q => q
  | d + 1, m, as, h, P, P', hp, q => by
    have hK : ∀ m' as h (P P' : Int → mmH → Prop), (∀ x h', P x h' → P' x h') → mmKm mp (mmRC sh tg fc wn mp bl nl tx d) m m' as h P → mmKm mp (mmRC sh tg fc wn mp bl nl tx d) m m' as h P' := fun m' as h P P' hp z => mmG_mono (mmRC_mono d m' as h P P' hp) z
    unfold mmRC at q ⊢
    exact mmWb_mono hp hK q
theorem mmRC_succ : ∀ (d m : Nat) (as : List Int) (h : mmH) (P : Int → mmH → Prop), mmRC sh tg fc wn mp bl nl tx d m as h P → mmRC sh tg fc wn mp bl nl tx (d + 1) m as h P
  | 0, _, _, _, _, q => q.elim
  | d + 1, m, as, h, P, q => by
    have hK : ∀ m' as h (P P' : Int → mmH → Prop), (∀ x h', P x h' → P' x h') → mmKm mp (mmRC sh tg fc wn mp bl nl tx d) m m' as h P → mmKm mp (mmRC sh tg fc wn mp bl nl tx (d + 1)) m m' as h P' := fun m' as h P P' hp z => mmG_mono (fun y => mmRC_mono (d + 1) m' as h P P' hp (mmRC_succ d m' as h P y)) z
    rw [mmRC] at q ⊢
    intro X hX
    exact q X fun i ls st h z => hX i ls st h (mmEx_mono hK (fun _ _ y => y) (fun _ _ _ _ y => y) _ _ _ _ z)
theorem mmRC_le {d d' m : Nat} {as : List Int} {h : mmH} {P : Int → mmH → Prop} (hd : d ≤ d') (q : mmRC sh tg fc wn mp bl nl tx d m as h P) : mmRC sh tg fc wn mp bl nl tx d' m as h P := by
  obtain ⟨k, rfl⟩ := Nat.exists_eq_add_of_le hd
  induction k with
  | zero => exact q
  | succ k ih => exact mmRC_succ _ _ _ _ _ (ih (by omega))
/-- THE STEP DOWN: what the run says, the small machine says, and: the known slots stay, the other side's cells stay -/
theorem mmRC_ok (hmode : ∀ mi, (mp mi).2.2.2.2.2 ≠ 0 → (mp mi).2.2.2.1 = 0 ∧ (mp mi).2.2.2.2.1 = 0) (hw0 : ∀ m, m ≠ 0 → wn m 0 = false) (hw3 : ∀ k, wn 3 k = false) (hfc : ∀ k i, (sh k).1 = 100 → fc k i = none) :
    ∀ (d mi : Nat) (as : List Int) (h : mmH) (Q : Int → mmH → Prop), (mp mi).2.2.2.2.2 ≠ 0 → mmInv fc h → mmRC sh tg fc wn mp bl nl tx d mi as h Q → mmC sh tg (fun _ _ => none) wn mp bl nl tx d mi as h (fun x h' => Q x h' ∧ mmJ fc (wn (mp mi).2.2.2.2.2) h h')
  | 0, _, _, _, _, _, _, q => q.elim
  | d + 1, mi, as, h, Q, hm, hI, q => by
    have hmc := hmode mi hm
    intro X hX
    rw [hmc.1, hmc.2] at hX
    have hJ0 : mmJ fc (wn (mp mi).2.2.2.2.2) h h := ⟨hI, fun _ _ => rfl⟩
    refine q (fun i ls st h' => mmJ fc (wn (mp mi).2.2.2.2.2) h h' → X i ls st h') (fun i ls st h' z hJ => hX i ls st h' ?_) hJ0
    refine mmEx_run (hs := h) (hw0 _ hm) rfl hfc ?_ ?_ (fun i ls st h' hJ y => y hJ) _ _ _ _ hJ z
    · intro mj as' h'' P P' hJ' hP y
      obtain ⟨y1, y2⟩ := mmG_iff.mp y
      have hmj : (mp mj).2.2.2.2.2 ≠ 0 := by
        simp only [Bool.or_eq_true] at y1
        rcases y1 with y1 | y1
        · rw [mm_beq y1]; exact hm
        · rw [mm_beq y1]; omega
      refine mmC_mono d mj as' h'' _ _ (fun x h3 z3 => hP x h3 ⟨z3.2.1, fun k hk => ?_⟩ z3.1) (mmRC_ok hmode hw0 hw3 hfc d mj as' h'' P' hmj hJ'.1 y2)
      rw [← hJ'.2 k hk]
      refine z3.2.2 k ?_
      simp only [Bool.or_eq_true] at y1
      rcases y1 with y1 | y1
      · rw [mm_beq y1]; exact hk
      · rw [mm_beq y1]; exact hw3 k
    · intro x h' hJ y
      exact ⟨Or.inl ⟨rfl, rfl⟩, y, hJ⟩
end MRd
end
