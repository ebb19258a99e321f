/-! ===== mm: numbers, bits, loops ===== -/
theorem mAdd_ok {a b : Int} (h1 : -2147483648 ≤ a + b) (h2 : a + b < 2147483648) : mAdd a b = a + b := by
  rw [mAdd_def, ← Int32.ofInt_add]
  exact Int32.toInt_ofInt_of_le (by omega) (by omega)
theorem mSub_ok {a b : Int} (h1 : -2147483648 ≤ a - b) (h2 : a - b < 2147483648) : mSub a b = a - b := by
  rw [mSub_def, ← Int32.ofInt_sub]
  exact Int32.toInt_ofInt_of_le (by omega) (by omega)
theorem mMul_ok {a b : Int} (h1 : -2147483648 ≤ a * b) (h2 : a * b < 2147483648) : mMul a b = a * b := by
  rw [mMul_def, ← Int32.ofInt_mul]
  exact Int32.toInt_ofInt_of_le (by omega) (by omega)
theorem nAdd_ok {a b : Int} (h1 : -9223372036854775808 ≤ a + b) (h2 : a + b < 9223372036854775808) : nAdd a b = a + b := by
  rw [nAdd_def, ← Int64.ofInt_add]
  exact Int64.toInt_ofInt_of_le (by omega) (by omega)
theorem nSub_ok {a b : Int} (h1 : -9223372036854775808 ≤ a - b) (h2 : a - b < 9223372036854775808) : nSub a b = a - b := by
  rw [nSub_def, ← Int64.ofInt_sub]
  exact Int64.toInt_ofInt_of_le (by omega) (by omega)
theorem nMul_ok {a b : Int} (h1 : -9223372036854775808 ≤ a * b) (h2 : a * b < 9223372036854775808) : nMul a b = a * b := by
  rw [nMul_def, ← Int64.ofInt_mul]
  exact Int64.toInt_ofInt_of_le (by omega) (by omega)
/-- an int -/
def InI (a : Int) : Prop := -2147483648 ≤ a ∧ a < 2147483648
theorem InI_32 (x : Int32) : InI x.toInt := ⟨by have := Int32.le_toInt x; omega, by have := Int32.toInt_lt x; omega⟩
theorem InI_add (a b : Int) : InI (mAdd a b) := by rw [mAdd_def]; exact InI_32 _
theorem InI_and (a b : Int) : InI (mAnd a b) := by rw [mAnd_def]; exact InI_32 _
theorem InI_or (a b : Int) : InI (mOr a b) := by rw [mOr_def]; exact InI_32 _
theorem InI_shl (a b : Int) : InI (mShl a b) := by rw [mShl_def]; exact InI_32 _
theorem InI_shr (a b : Int) : InI (mShr a b) := by rw [mShr_def]; exact InI_32 _
/-- bit l of x -/
def tb (x l : Int) : Bool := (Int32.ofInt x).toBitVec.getLsbD l.toNat
theorem tb_ext {a b : Int} (ha : InI a) (hb : InI b) (h : ∀ l : Int, 0 ≤ l → l < 32 → tb a l = tb b l) : a = b := by
  have e : Int32.ofInt a = Int32.ofInt b := by
    apply Int32.toBitVec.inj
    apply BitVec.eq_of_getLsbD_eq
    intro i hi
    have := h (i : Int) (by omega) (by omega)
    unfold tb at this
    rw [show ((i : Int)).toNat = i from rfl] at this
    exact this
  have e2 := congrArg Int32.toInt e
  rw [Int32.toInt_ofInt_of_le (by have := ha.1; omega) (by have := ha.2; omega), Int32.toInt_ofInt_of_le (by have := hb.1; omega) (by have := hb.2; omega)] at e2
  exact e2
theorem tb_and (a b l : Int) : tb (mAnd a b) l = (tb a l && tb b l) := by
  unfold tb
  rw [mAnd_def, Int32.ofInt_toInt, Int32.toBitVec_and, BitVec.getLsbD_and]
theorem tb_or (a b l : Int) : tb (mOr a b) l = (tb a l || tb b l) := by
  unfold tb
  rw [mOr_def, Int32.ofInt_toInt, Int32.toBitVec_or, BitVec.getLsbD_or]
theorem tb_zero (l : Int) : tb 0 l = false := by
  unfold tb
  rw [show (Int32.ofInt 0).toBitVec = 0#32 from rfl]
  simp
theorem tb_m1 {l : Int} (h1 : 0 ≤ l) (h2 : l < 32) : tb (-1) l = true := by
  unfold tb
  rw [show (Int32.ofInt (-1)).toBitVec = BitVec.allOnes 32 from rfl, BitVec.getLsbD_allOnes]
  simp
  omega
theorem tb_not {a l : Int} (h1 : 0 ≤ l) (h2 : l < 32) : tb (mXor a (-1)) l = !tb a l := by
  have := tb_m1 h1 h2
  unfold tb at this ⊢
  rw [mXor_def, Int32.ofInt_toInt, Int32.toBitVec_xor, BitVec.getLsbD_xor, this]
  simp
theorem shiftN_32 {k : Int} (h1 : 0 ≤ k) (h2 : k < 32) : ((Int32.ofInt k &&& 31).toBitVec.smod 32).toNat = k.toNat := by
  have key : ∀ j : Fin 32, ((Int32.ofInt (j.val : Int) &&& 31).toBitVec.smod 32).toNat = j.val := by decide +kernel
  have := key ⟨k.toNat, by omega⟩
  rw [show ((k.toNat : Nat) : Int) = k by omega] at this
  exact this
theorem tb_shl {a k l : Int} (h1 : 0 ≤ k) (h2 : k < 32) (h3 : 0 ≤ l) (h4 : l < 32) : tb (mShl a k) l = (decide (k ≤ l) && tb a (l - k)) := by
  unfold tb
  rw [mShl_def, Int32.ofInt_toInt, Int32.toBitVec_shiftLeft, BitVec.getLsbD_shiftLeft', shiftN_32 h1 h2]
  rw [show (l - k).toNat = l.toNat - k.toNat by omega]
  by_cases h : k ≤ l
  · simp [h]; omega
  · simp [h]; omega
theorem tb_one (l : Int) : tb 1 l = decide (l ≤ 0) := by
  unfold tb
  rw [show (Int32.ofInt 1).toBitVec = 1#32 from rfl, BitVec.getLsbD_one]
  simp
theorem tb_shl1 {k l : Int} (h1 : 0 ≤ k) (h2 : k < 32) (h3 : 0 ≤ l) (h4 : l < 32) : tb (mShl 1 k) l = decide (l = k) := by
  rw [tb_shl h1 h2 h3 h4, tb_one]
  by_cases h : l = k
  · simp [h]
  · by_cases h5 : k ≤ l
    · simp [h, h5]; omega
    · simp [h5, h]
theorem tb_shr {a k l : Int} (h1 : 0 ≤ k) (h2 : k < 32) (h3 : 0 ≤ l) (h4 : k + l < 32) : tb (mShr a k) l = tb a (k + l) := by
  unfold tb
  rw [mShr_def, Int32.ofInt_toInt, Int32.toBitVec_shiftRight, BitVec.sshiftRight_eq', shiftN_32 h1 h2, BitVec.getLsbD_sshiftRight]
  rw [show (k + l).toNat = k.toNat + l.toNat by omega]
  have e1 : ¬ 32 ≤ l.toNat := by omega
  have e2 : k.toNat + l.toNat < 32 := by omega
  simp [e1, e2]
theorem mAnd_one (a : Int) : mAnd a 1 = if tb a 0 then 1 else 0 := by
  apply tb_ext (InI_and _ _)
  · split <;> exact ⟨by omega, by omega⟩
  · intro l h1 h2
    rw [tb_and, tb_one]
    by_cases h : l = 0
    · subst h
      cases e : tb a 0 <;> simp [tb_zero, tb_one]
    · have : ¬ l ≤ 0 := by omega
      cases e : tb a 0 <;> simp [tb_zero, tb_one, this]
theorem bit_at {a k : Int} (h1 : 0 ≤ k) (h2 : k < 32) : mAnd (mShr a k) 1 = if tb a k then 1 else 0 := by
  rw [mAnd_one, tb_shr h1 h2 (by omega) (by omega), Int.add_zero]
theorem bit_is {a k : Int} (h1 : 0 ≤ k) (h2 : k < 32) : mAnd (mShr a k) 1 = 1 ↔ tb a k = true := by
  rw [bit_at h1 h2]
  cases tb a k <;> simp
/-- int as bits, numbers from 0 on -/
theorem mAnd_nat {a b : Int} (ha : 0 ≤ a) (hb : 0 ≤ b) (ha2 : a < 2147483648) (hb2 : b < 2147483648) : mAnd a b = ((a.toNat &&& b.toNat : Nat) : Int) := by
  have hle : a.toNat &&& b.toNat ≤ a.toNat := Nat.and_le_left
  have hI : InI ((a.toNat &&& b.toNat : Nat) : Int) := ⟨by omega, by omega⟩
  apply tb_ext (InI_and _ _) hI
  intro l h1 h2
  rw [tb_and]
  have key : ∀ x : Int, 0 ≤ x → x < 2147483648 → tb x l = x.toNat.testBit l.toNat := by
    intro x hx hx2
    unfold tb
    rw [Int32.toBitVec_ofInt]
    have : BitVec.ofInt 32 x = BitVec.ofNat 32 x.toNat := by
      apply BitVec.eq_of_toInt_eq
      rw [BitVec.toInt_ofInt, BitVec.toInt_ofNat']
      rw [show ((x.toNat : Nat) : Int) = x by omega]
    rw [this, BitVec.getLsbD_ofNat]
    have : l.toNat < 32 := by omega
    simp [this]
  rw [key a ha ha2, key b hb hb2, key _ (by omega) hI.2]
  simp
theorem tb_nat {x l : Int} (hx : 0 ≤ x) (hx2 : x < 2147483648) (h1 : 0 ≤ l) (h2 : l < 32) : tb x l = x.toNat.testBit l.toNat := by
  unfold tb
  rw [Int32.toBitVec_ofInt]
  have : BitVec.ofInt 32 x = BitVec.ofNat 32 x.toNat := by
    apply BitVec.eq_of_toInt_eq
    rw [BitVec.toInt_ofInt, BitVec.toInt_ofNat']
    rw [show ((x.toNat : Nat) : Int) = x by omega]
  rw [this, BitVec.getLsbD_ofNat]
  have : l.toNat < 32 := by omega
  simp [this]
theorem mAnd_le {a b : Int} (ha : 0 ≤ a) (hb : 0 ≤ b) (ha2 : a < 2147483648) (hb2 : b < 2147483648) : 0 ≤ mAnd a b ∧ mAnd a b ≤ a := by
  rw [mAnd_nat ha hb ha2 hb2]
  have := @Nat.and_le_left a.toNat b.toNat
  omega
theorem mShl1_pow : ∀ k : Fin 31, mShl 1 (k.val : Int) = 2 ^ k.val := by
  intro k
  rw [mShl_def]
  revert k
  decide +kernel
theorem mShl1_eq {k : Int} (h1 : 0 ≤ k) (h2 : k < 31) : mShl 1 k = 2 ^ k.toNat := by
  have := mShl1_pow ⟨k.toNat, by omega⟩
  rw [show ((k.toNat : Nat) : Int) = k by omega] at this
  exact this
/-- n steps from k on -/
def upI {σ : Type} (f : Int → σ → σ) : Nat → Int → σ → σ
  | 0, _, s => s
  | n + 1, k, s => upI f n (k + 1) (f k s)
theorem upI_congr {σ : Type} {f g : Int → σ → σ} : ∀ (n : Nat) (k : Int) (s : σ), (∀ i a, k ≤ i → i < k + n → f i a = g i a) → upI f n k s = upI g n k s
  | 0, _, _, _ => rfl
  | n + 1, k, s, h => by
    unfold upI
    rw [h k s (by omega) (by omega)]
    exact upI_congr n (k + 1) _ (fun i a h1 h2 => h i a (by omega) (by omega))
theorem upI_inv {σ : Type} {f : Int → σ → σ} (I : Int → σ → Prop) : ∀ (n : Nat) (k : Int) (s : σ), I k s → (∀ i a, k ≤ i → i < k + n → I i a → I (i + 1) (f i a)) → I (k + n) (upI f n k s)
  | 0, k, s, h, _ => by simpa [upI] using h
  | n + 1, k, s, h, hs => by
    unfold upI
    have := upI_inv I n (k + 1) (f k s) (hs k s (by omega) (by omega) h) (fun i a h1 h2 => hs i a (by omega) (by omega))
    rw [show k + ((n + 1 : Nat) : Int) = k + 1 + (n : Int) by omega]
    exact this
theorem upI_succ {σ : Type} (f : Int → σ → σ) : ∀ (n : Nat) (k : Int) (s : σ), upI f (n + 1) k s = f (k + n) (upI f n k s)
  | 0, k, s => by simp [upI]
  | n + 1, k, s => by
    rw [upI, upI_succ f n (k + 1), upI]
    rw [show k + 1 + (n : Int) = k + ((n + 1 : Nat) : Int) by omega]
/-- a loop's walk: from its k-th step to behind its last one -/
theorem upI_run {σ : Type} {P : Int → σ → Prop} {f : Int → σ → σ} (I : Int → σ → Prop) : ∀ (n : Nat) (k : Int) (s : σ), I k s → (∀ i a, k ≤ i → i < k + n → I i a → I (i + 1) (f i a) ∧ (P (i + 1) (f i a) → P i a)) → P (k + n) (upI f n k s) → P k s
  | 0, k, s, _, _, h => by simpa [upI] using h
  | n + 1, k, s, hI, hs, h => by
    obtain ⟨h1, h2⟩ := hs k s (by omega) (by omega) hI
    apply h2
    refine upI_run I n (k + 1) _ h1 (fun i a a1 a2 => hs i a (by omega) (by omega)) ?_
    unfold upI at h
    rw [show k + 1 + (n : Int) = k + ((n + 1 : Nat) : Int) by omega]
    exact h
/-- the same without what is known on the way -/
theorem upI_go {σ : Type} {P : Int → σ → Prop} {f : Int → σ → σ} (n : Nat) (k : Int) (s : σ) (hs : ∀ i a, k ≤ i → i < k + n → P (i + 1) (f i a) → P i a) (h : P (k + n) (upI f n k s)) : P k s :=
  upI_run (fun _ _ => True) n k s trivial (fun i a h1 h2 _ => ⟨trivial, hs i a h1 h2⟩) h
/-- from k up to m -/
def upTo {σ : Type} (f : Int → σ → σ) (k m : Int) (s : σ) : σ := upI f (m - k).toNat k s
theorem upTo_run {σ : Type} {P : Int → σ → Prop} {f : Int → σ → σ} (I : Int → σ → Prop) (k m : Int) (s : σ) (hkm : k ≤ m) (hI : I k s) (hs : ∀ i a, k ≤ i → i < m → I i a → I (i + 1) (f i a) ∧ (P (i + 1) (f i a) → P i a)) (h : P m (upTo f k m s)) : P k s :=
  upI_run I (m - k).toNat k s hI (fun i a h1 h2 => hs i a h1 (by omega)) (by rw [show k + (((m - k).toNat : Nat) : Int) = m by omega]; exact h)
theorem upTo_go {σ : Type} {P : Int → σ → Prop} {f : Int → σ → σ} (k m : Int) (s : σ) (hkm : k ≤ m) (hs : ∀ i a, k ≤ i → i < m → P (i + 1) (f i a) → P i a) (h : P m (upTo f k m s)) : P k s :=
  upTo_run (fun _ _ => True) k m s hkm trivial (fun i a h1 h2 _ => ⟨trivial, hs i a h1 h2⟩) h
theorem upTo_congr {σ : Type} {f g : Int → σ → σ} {k m : Int} {s : σ} (h : ∀ i a, k ≤ i → i < m → f i a = g i a) : upTo f k m s = upTo g k m s :=
  upI_congr _ _ _ (fun i a h1 h2 => h i a h1 (by omega))
theorem upTo_inv {σ : Type} {f : Int → σ → σ} (I : Int → σ → Prop) {k m : Int} {s : σ} (hkm : k ≤ m) (h : I k s) (hs : ∀ i a, k ≤ i → i < m → I i a → I (i + 1) (f i a)) : I m (upTo f k m s) := by
  have := upI_inv I (m - k).toNat k s h (fun i a h1 h2 => hs i a h1 (by omega))
  rw [show k + (((m - k).toNat : Nat) : Int) = m by omega] at this
  exact this
theorem upTo_self {σ : Type} (f : Int → σ → σ) {k m : Int} (s : σ) (h : m ≤ k) : upTo f k m s = s := by
  unfold upTo
  rw [show (m - k).toNat = 0 by omega]
  rfl
theorem upTo_last {σ : Type} (f : Int → σ → σ) {k m : Int} (s : σ) (h : k ≤ m) : upTo f k (m + 1) s = f m (upTo f k m s) := by
  unfold upTo
  rw [show (m + 1 - k).toNat = (m - k).toNat + 1 by omega, upI_succ, show k + (((m - k).toNat : Nat) : Int) = m by omega]
theorem upTo_first {σ : Type} (f : Int → σ → σ) {k m : Int} (s : σ) (h : k < m) : upTo f k m s = upTo f (k + 1) m (f k s) := by
  unfold upTo
  rw [show (m - k).toNat = (m - (k + 1)).toNat + 1 by omega]
  rfl
/-- the places with p, below n, as bits -/
noncomputable def setOf (n : Int) (p : Int → Bool) : Int := upTo (fun l b => bif p l then mOr b (mShl 1 l) else b) 0 n 0
theorem setOf_tb {n : Int} {p : Int → Bool} (h0 : 0 ≤ n) (hn : n ≤ 31) {l : Int} (h1 : 0 ≤ l) (h2 : l < 32) : tb (setOf n p) l = (decide (l < n) && p l) := by
  have key := upTo_inv (f := fun l b => bif p l then mOr b (mShl 1 l) else b) (fun k b => ∀ l : Int, 0 ≤ l → l < 32 → tb b l = (decide (l < k) && p l)) (k := 0) (m := n) (s := (0 : Int)) h0 ?_ ?_
  · exact key l h1 h2
  · intro l h1 h2
    rw [tb_zero]
    have : ¬ l < 0 := by omega
    simp [this]
  · intro i a hi1 hi2 ha l h1 h2
    cases e : p i with
    | false =>
      simp only [cond_false]
      rw [ha l h1 h2]
      by_cases e2 : l = i
      · subst e2; simp [e]
      · by_cases e3 : l < i
        · have : l < i + 1 := by omega
          simp [e3, this]
        · have : ¬ l < i + 1 := by omega
          simp [e3, this]
    | true =>
      simp only [cond_true]
      rw [tb_or, ha l h1 h2, tb_shl1 (by omega) (by omega) h1 h2]
      by_cases e2 : l = i
      · subst e2
        have : l < l + 1 := by omega
        simp [e, this]
      · by_cases e3 : l < i
        · have : l < i + 1 := by omega
          simp [e2, e3, this]
        · have : ¬ l < i + 1 := by omega
          simp [e2, e3, this]
theorem setOf_InI (n : Int) (p : Int → Bool) (h0 : 0 ≤ n) : InI (setOf n p) := by
  refine upTo_inv (fun _ b => InI b) h0 ⟨by omega, by omega⟩ (fun i a _ _ ha => ?_)
  cases p i with
  | false => exact ha
  | true => exact InI_or _ _
theorem setOf_congr {n : Int} {p q : Int → Bool} (h : ∀ l, 0 ≤ l → l < n → p l = q l) : setOf n p = setOf n q :=
  upTo_congr (fun i a h1 h2 => by rw [h i h1 h2])
/-- a sum, a count -/
noncomputable def sumOf (n : Int) (g : Int → Int) : Int := upTo (fun l s => mAdd s (g l)) 0 n 0
theorem sumOf_congr {n : Int} {p q : Int → Int} (h : ∀ l, 0 ≤ l → l < n → p l = q l) : sumOf n p = sumOf n q :=
  upTo_congr (fun i a h1 h2 => by rw [h i h1 h2])
noncomputable def cntOf (n : Int) (p : Int → Bool) : Int := upTo (fun l s => bif p l then mAdd s 1 else s) 0 n 0
theorem cntOf_congr {n : Int} {p q : Int → Bool} (h : ∀ l, 0 ≤ l → l < n → p l = q l) : cntOf n p = cntOf n q :=
  upTo_congr (fun i a h1 h2 => by rw [h i h1 h2])
theorem mmD_of {P : Prop} {d : Decidable P} {R : Prop} (hp : P) (hr : R) : mmD P d R := mmD_iff.mpr ⟨hp, hr⟩
theorem mmG_of {b : Bool} {P : Prop} (hb : b = true) (hp : P) : mmG b P := mmG_iff.mpr ⟨hb, hp⟩
theorem tb_ushr {a k l : Int} (h1 : 0 ≤ k) (h2 : k < 32) (h3 : 0 ≤ l) (h4 : k + l < 32) : tb (mUshr a k) l = tb a (k + l) := by
  have key : ∀ j : Fin 32, (((Int32.ofInt (j.val : Int)).toUInt32 &&& Int32.toUInt32 31).toBitVec % 32#32).toNat = j.val := by decide +kernel
  have kk := key ⟨k.toNat, by omega⟩
  rw [show ((k.toNat : Nat) : Int) = k by omega] at kk
  unfold tb
  rw [mUshr_def, Int32.ofInt_toInt, UInt32.toBitVec_toInt32, UInt32.toBitVec_shiftRight]
  rw [BitVec.ushiftRight_eq']
  rw [show ((Int32.ofInt k).toUInt32 &&& Int32.toUInt32 31).toBitVec % (32 : BitVec 32) = ((Int32.ofInt k).toUInt32 &&& Int32.toUInt32 31).toBitVec % 32#32 from rfl, kk]
  rw [BitVec.getLsbD_ushiftRight, show (k + l).toNat = k.toNat + l.toNat by omega]
  rfl
