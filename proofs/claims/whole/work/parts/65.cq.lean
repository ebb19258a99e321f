/-! ===== mm: the other side's small readers ===== -/
/-- how many bits, below 1024 -/
def pcN (a : Nat) : Nat := ((List.range 10).filter (fun i => a.testBit i)).length
def pc (a : Int) : Int := (pcN a.toNat : Int)
theorem pcN_step : ∀ a : Fin 1024, a.val ≠ 0 → pcN (a.val &&& (a.val - 1)) + 1 = pcN a.val := by decide +kernel
theorem pcN_zero : pcN 0 = 0 := by decide +kernel
theorem pcN_le : ∀ a : Fin 1024, pcN a.val ≤ 10 := by decide +kernel
theorem pcN_pos : ∀ a : Fin 1024, a.val ≠ 0 → 0 < pcN a.val := by decide +kernel
def bcU (a k : Int32) : Int32 := (a.toUInt32 >>> (k.toUInt32 &&& Int32.toUInt32 31)).toInt32
def bcE (a : Int32) : Int32 :=
  let i1 := a - (bcU a (Int32.ofInt 1) &&& Int32.ofInt 1431655765)
  let i2 := (i1 &&& Int32.ofInt 858993459) + (bcU i1 (Int32.ofInt 2) &&& Int32.ofInt 858993459)
  let i3 := (i2 + bcU i2 (Int32.ofInt 4)) &&& Int32.ofInt 252645135
  let i4 := i3 + bcU i3 (Int32.ofInt 8)
  let i5 := i4 + bcU i4 (Int32.ofInt 16)
  i5 &&& Int32.ofInt 63
theorem bcE_ok : ∀ a : Fin 1024, (bcE (Int32.ofInt (a.val : Int))).toInt = (pcN a.val : Int) := by decide +kernel
section MQ
variable {d : Nat} {h : mmH} {Q : Int → mmH → Prop}
theorem q_m_bits {a : Int} (h1 : 0 ≤ a) (h2 : a < 1024) (hy : Q (pc a) h) : qC tFM (d + 1) k_m_bits [a] h Q := by
  refine qC_intro (T_m_bits_0 _ _ _ _ _ _ ?_)
  have key : ∀ (n : Nat) (x s : Int), 0 ≤ x → x < 1024 → x.toNat ≤ n → 0 ≤ s → s + pc x ≤ 10 → Q (s + pc x) h → qB tFM d k_m_bits (h 0 0) (h 0 1) Q 1 [(1, a), (1, s), (1, x)] [] h := by
    intro n
    induction n with
    | zero =>
      intro x s x1 x2 x3 s1 s2 hq
      have : x = 0 := by omega
      subst this
      refine T_m_bits_1 _ _ _ _ _ _ _ _ ⟨fun _ => ?_, fun c => absurd rfl c⟩
      have e : pc 0 = 0 := by unfold pc; rw [show (0 : Int).toNat = 0 from rfl, pcN_zero]; rfl
      rw [e, Int.add_zero] at hq
      exact hq
    | succ n ih =>
      intro x s x1 x2 x3 s1 s2 hq
      refine T_m_bits_1 _ _ _ _ _ _ _ _ ⟨fun c => ?_, fun c => ?_⟩
      · subst c
        have e : pc 0 = 0 := by unfold pc; rw [show (0 : Int).toNat = 0 from rfl, pcN_zero]; rfl
        rw [e, Int.add_zero] at hq
        exact hq
      · have p1 := pcN_step ⟨x.toNat, by omega⟩ (by show x.toNat ≠ 0; omega)
        simp only [] at p1
        have hle : x.toNat &&& (x.toNat - 1) ≤ x.toNat - 1 := Nat.and_le_right
        have e : mAnd x (mSub x 1) = ((x.toNat &&& (x.toNat - 1) : Nat) : Int) := by
          rw [mSub_ok (by omega) (by omega), mAnd_nat x1 (by omega) (by omega) (by omega), show (x - 1).toNat = x.toNat - 1 by omega]
        have e2 : pc (mAnd x (mSub x 1)) + 1 = pc x := by
          rw [e]; unfold pc
          rw [show (((x.toNat &&& (x.toNat - 1) : Nat) : Int)).toNat = x.toNat &&& (x.toNat - 1) from rfl]
          omega
        rw [mAdd_ok (by unfold pc at s2; omega) (by unfold pc at s2; omega)]
        refine ih _ _ (by rw [e]; omega) (by rw [e]; omega) (by rw [e]; omega) (by omega) (by omega) ?_
        rw [show s + 1 + pc (mAnd x (mSub x 1)) = s + pc x by omega]
        exact hq
  have := pcN_le ⟨a.toNat, by omega⟩
  exact key a.toNat a 0 h1 h2 (Nat.le_refl _) (Int.le_refl _) (by unfold pc; simp at this; omega) (by rw [Int.zero_add]; exact hy)
end MQ
section CQA
variable {d : Nat} {h : mmH} {Q : Int → mmH → Prop}
theorem pA_bitCount {a : Int} (h1 : 0 ≤ a) (h2 : a < 1024) (hy : Q (pc a) h) : qC tFA (d + 1) k_jInteger_bitCount [a] h Q := by
  refine qC_intro (TA_jInteger_bitCount_0 _ _ _ _ _ _ ?_)
  simp only [mAnd_def, mAdd_def, mSub_def, mUshr_def, Int32.ofInt_toInt]
  have e := bcE_ok ⟨a.toNat, by omega⟩
  simp only [] at e
  rw [show ((a.toNat : Nat) : Int) = a by omega] at e
  unfold pc at hy
  rw [← e] at hy
  exact hy
theorem pA_isOwner {a : Int} (hy : ∀ x, YN x (0 ≤ a ∧ a < h 5 0) → Q x h) : qC tFA (d + 1) k_Town_isOwner [5, a] h Q :=
  qC_intro (TA5_Town_isOwner_0 _ _ _ _ _ _ ⟨fun c1 => hy _ (YN.no (by omega)), fun c1 => ⟨fun c2 => hy _ (YN.no (by omega)), fun c2 => hy _ (YN.yes (by omega))⟩⟩)
theorem pA_isPerson {a : Int} (hy : ∀ x, YN x (0 ≤ a ∧ a < h 5 3) → Q x h) : qC tFA (d + 1) k_Town_isPerson [5, a] h Q :=
  qC_intro (TA5_Town_isPerson_0 _ _ _ _ _ _ ⟨fun c1 => hy _ (YN.no (by omega)), fun c1 => ⟨fun c2 => hy _ (YN.no (by omega)), fun c2 => hy _ (YN.yes (by omega))⟩⟩)
theorem pA_allLots (h1 : 0 ≤ h 5 1) (h2 : h 5 1 ≤ 10) (hy : Q (mShl 1 (h 5 1) - 1) h) : qC tFA (d + 1) k_Town_allLots [5] h Q := by
  refine qC_intro (TA5_Town_allLots_0 _ _ _ _ _ ?_)
  rw [mSub_ok (by rw [mShl1_eq h1 (by omega)]; have : (0 : Int) < 2 ^ (h 5 1).toNat := Int.pow_pos (by decide); omega) (by have := (InI_shl 1 (h 5 1)).2; omega)]
  exact hy
theorem pA_holes {n : Int} (h1 : 0 ≤ n) (h2 : n ≤ 10) (hy : Q (setOf n (fun l => decide (h 87 l = 0))) h) : qC tFA (d + 1) k_Roofs_holes [86, n] h Q := by
  refine qC_intro (TA_Roofs_holes_0 _ _ _ _ _ _ ?_)
  refine upTo_go (P := fun i (s : Int) => qB tFA d k_Roofs_holes (h 0 0) (h 0 1) Q 1 [(3, 86), (1, n), (1, s), (1, i)] [] h) (f := fun l s => bif decide (h 87 l = 0) then mOr s (mShl 1 l) else s) 0 n 0 (by omega) (fun i s i1 i2 hp => ?_) ?_
  · refine TA_Roofs_holes_1 _ _ _ _ _ _ _ _ ⟨fun c => absurd c (by omega), fun _ => mmD_of (by omega) ?_⟩
    rw [mAdd_ok (a := i) (by omega) (by omega)]
    refine ⟨fun c => ?_, fun c => ?_⟩
    · rw [decide_eq_false c] at hp
      exact hp
    · rw [decide_eq_true (by omega)] at hp
      exact hp
  · exact TA_Roofs_holes_1 _ _ _ _ _ _ _ _ ⟨fun _ => hy, fun c => absurd (Int.le_refl _) c⟩
theorem pA_leaks (h1 : 0 ≤ h 5 1) (h2 : h 5 1 ≤ 10) (hy : Q (setOf (h 5 1) (fun l => decide (h 87 l < 3))) h) : qC tFA (d + 1) k_c_leaks [1] h Q := by
  refine qC_intro (TA_c_leaks_0 _ _ _ _ _ ?_)
  refine upTo_go (P := fun i (s : Int) => qB tFA d k_c_leaks (h 0 0) (h 0 1) Q 1 [(3, 1), (1, s), (1, i)] [] h) (f := fun l s => bif decide (h 87 l < 3) then mOr s (mShl 1 l) else s) 0 (h 5 1) 0 (by omega) (fun i s i1 i2 hp => ?_) ?_
  · refine TA_c_leaks_1 _ _ _ _ _ _ _ ⟨fun c => absurd c (by omega), fun _ => mmD_of (by omega) ?_⟩
    rw [mAdd_ok (a := i) (by omega) (by omega)]
    refine ⟨fun c => ?_, fun c => ?_⟩
    · rw [decide_eq_false (by omega)] at hp
      exact hp
    · rw [decide_eq_true (by omega)] at hp
      exact hp
  · exact TA_c_leaks_1 _ _ _ _ _ _ _ ⟨fun _ => hy, fun c => absurd (Int.le_refl _) c⟩
theorem pA_tilesOf {a : Int} (hy : Q (upTo (fun l s => bif tb a l then mAdd s (h 87 l) else s) 0 10 0) h) : qC tFA (d + 1) k_Roofs_tilesOf [86, a] h Q := by
  refine qC_intro (TA_Roofs_tilesOf_0 _ _ _ _ _ _ ?_)
  refine upTo_go (P := fun i (s : Int) => qB tFA d k_Roofs_tilesOf (h 0 0) (h 0 1) Q 1 [(3, 86), (1, a), (1, s), (1, i)] [] h) (f := fun l s => bif tb a l then mAdd s (h 87 l) else s) 0 10 0 (by omega) (fun i s i1 i2 hp => ?_) ?_
  · refine TA_Roofs_tilesOf_1 _ _ _ _ _ _ _ _ ⟨fun c => absurd c (by omega), fun _ => ?_⟩
    rw [mAdd_ok (a := i) (by omega) (by omega)]
    refine ⟨fun c => ?_, fun c => mmD_of (by omega) ?_⟩
    · rw [Ne, bit_is i1 (by omega)] at c
      rw [Bool.eq_false_iff.mpr c] at hp
      exact hp
    · have c := (bit_is i1 (by omega)).mp (Decidable.of_not_not c)
      rw [c] at hp
      exact hp
  · exact TA_Roofs_tilesOf_1 _ _ _ _ _ _ _ _ ⟨fun _ => hy, fun c => absurd (Int.le_refl _) c⟩
theorem pA_ledTo {a : Int} (h1 : 0 ≤ h 86 2) (h2 : h 86 2 ≤ 60) (hy : Q (cntOf (h 86 2) (fun k => decide (h 94 k = a))) h) : qC tFA (d + 1) k_Roofs_ledTo [86, a] h Q := by
  refine qC_intro (TA_Roofs_ledTo_0 _ _ _ _ _ _ ?_)
  refine upTo_go (P := fun i (s : Int) => qB tFA d k_Roofs_ledTo (h 0 0) (h 0 1) Q 1 [(3, 86), (1, a), (1, s), (1, i)] [] h) (f := fun k s => bif decide (h 94 k = a) then mAdd s 1 else s) 0 (h 86 2) 0 (by omega) (fun i s i1 i2 hp => ?_) ?_
  · refine TA_Roofs_ledTo_1 _ _ _ _ _ _ _ _ ⟨fun c => absurd c (by omega), fun _ => ?_⟩
    rw [mAdd_ok (a := i) (by omega) (by omega)]
    refine mmD_of (by omega) ⟨fun c => ?_, fun c => ?_⟩
    · rw [decide_eq_false c] at hp
      exact hp
    · rw [decide_eq_true (by omega)] at hp
      exact hp
  · exact TA_Roofs_ledTo_1 _ _ _ _ _ _ _ _ ⟨fun _ => hy, fun c => absurd (Int.le_refl _) c⟩
theorem pA_guests {a : Int} (h1 : 0 ≤ h 5 3) (h2 : h 5 3 ≤ 6) (hy : Q (cntOf (h 5 3) (fun p => decide (h 88 p = a))) h) : qC tFA (d + 1) k_c_guests [1, a] h Q := by
  refine qC_intro (TA_c_guests_0 _ _ _ _ _ _ ?_)
  refine upTo_go (P := fun i (s : Int) => qB tFA d k_c_guests (h 0 0) (h 0 1) Q 1 [(3, 1), (1, a), (1, s), (1, i)] [] h) (f := fun k s => bif decide (h 88 k = a) then mAdd s 1 else s) 0 (h 5 3) 0 (by omega) (fun i s i1 i2 hp => ?_) ?_
  · refine TA_c_guests_1 _ _ _ _ _ _ _ _ ⟨fun c => absurd c (by omega), fun _ => ?_⟩
    rw [mAdd_ok (a := i) (by omega) (by omega)]
    refine mmD_of (by omega) ⟨fun c => ?_, fun c => ?_⟩
    · rw [decide_eq_false c] at hp
      exact hp
    · rw [decide_eq_true (by omega)] at hp
      exact hp
  · exact TA_c_guests_1 _ _ _ _ _ _ _ _ ⟨fun _ => hy, fun c => absurd (Int.le_refl _) c⟩
end CQA
section CQB
variable {d : Nat} {h : mmH} {Q : Int → mmH → Prop}
theorem pB_bitCount {a : Int} (h1 : 0 ≤ a) (h2 : a < 1024) (hy : Q (pc a) h) : qC tFB (d + 1) k_jInteger_bitCount [a] h Q := by
  refine qC_intro (TB_jInteger_bitCount_0 _ _ _ _ _ _ ?_)
  simp only [mAnd_def, mAdd_def, mSub_def, mUshr_def, Int32.ofInt_toInt]
  have e := bcE_ok ⟨a.toNat, by omega⟩
  simp only [] at e
  rw [show ((a.toNat : Nat) : Int) = a by omega] at e
  unfold pc at hy
  rw [← e] at hy
  exact hy
theorem pB_isOwner {a : Int} (hy : ∀ x, YN x (0 ≤ a ∧ a < h 46 0) → Q x h) : qC tFB (d + 1) k_Town_isOwner [46, a] h Q :=
  qC_intro (TB46_Town_isOwner_0 _ _ _ _ _ _ ⟨fun c1 => hy _ (YN.no (by omega)), fun c1 => ⟨fun c2 => hy _ (YN.no (by omega)), fun c2 => hy _ (YN.yes (by omega))⟩⟩)
theorem pB_isPerson {a : Int} (hy : ∀ x, YN x (0 ≤ a ∧ a < h 46 3) → Q x h) : qC tFB (d + 1) k_Town_isPerson [46, a] h Q :=
  qC_intro (TB46_Town_isPerson_0 _ _ _ _ _ _ ⟨fun c1 => hy _ (YN.no (by omega)), fun c1 => ⟨fun c2 => hy _ (YN.no (by omega)), fun c2 => hy _ (YN.yes (by omega))⟩⟩)
theorem pB_allLots (h1 : 0 ≤ h 46 1) (h2 : h 46 1 ≤ 10) (hy : Q (mShl 1 (h 46 1) - 1) h) : qC tFB (d + 1) k_Town_allLots [46] h Q := by
  refine qC_intro (TB46_Town_allLots_0 _ _ _ _ _ ?_)
  rw [mSub_ok (by rw [mShl1_eq h1 (by omega)]; have : (0 : Int) < 2 ^ (h 46 1).toNat := Int.pow_pos (by decide); omega) (by have := (InI_shl 1 (h 46 1)).2; omega)]
  exact hy
theorem pB_holes {n : Int} (h1 : 0 ≤ n) (h2 : n ≤ 10) (hy : Q (setOf n (fun l => decide (h 87 l = 0))) h) : qC tFB (d + 1) k_Roofs_holes [86, n] h Q := by
  refine qC_intro (TB_Roofs_holes_0 _ _ _ _ _ _ ?_)
  refine upTo_go (P := fun i (s : Int) => qB tFB d k_Roofs_holes (h 0 0) (h 0 1) Q 1 [(3, 86), (1, n), (1, s), (1, i)] [] h) (f := fun l s => bif decide (h 87 l = 0) then mOr s (mShl 1 l) else s) 0 n 0 (by omega) (fun i s i1 i2 hp => ?_) ?_
  · refine TB_Roofs_holes_1 _ _ _ _ _ _ _ _ ⟨fun c => absurd c (by omega), fun _ => mmD_of (by omega) ?_⟩
    rw [mAdd_ok (a := i) (by omega) (by omega)]
    refine ⟨fun c => ?_, fun c => ?_⟩
    · rw [decide_eq_false c] at hp
      exact hp
    · rw [decide_eq_true (by omega)] at hp
      exact hp
  · exact TB_Roofs_holes_1 _ _ _ _ _ _ _ _ ⟨fun _ => hy, fun c => absurd (Int.le_refl _) c⟩
theorem pB_leaks (h1 : 0 ≤ h 46 1) (h2 : h 46 1 ≤ 10) (hy : Q (setOf (h 46 1) (fun l => decide (h 87 l < 3))) h) : qC tFB (d + 1) k_c_leaks [1] h Q := by
  refine qC_intro (TB_c_leaks_0 _ _ _ _ _ ?_)
  refine upTo_go (P := fun i (s : Int) => qB tFB d k_c_leaks (h 0 0) (h 0 1) Q 1 [(3, 1), (1, s), (1, i)] [] h) (f := fun l s => bif decide (h 87 l < 3) then mOr s (mShl 1 l) else s) 0 (h 46 1) 0 (by omega) (fun i s i1 i2 hp => ?_) ?_
  · refine TB_c_leaks_1 _ _ _ _ _ _ _ ⟨fun c => absurd c (by omega), fun _ => mmD_of (by omega) ?_⟩
    rw [mAdd_ok (a := i) (by omega) (by omega)]
    refine ⟨fun c => ?_, fun c => ?_⟩
    · rw [decide_eq_false (by omega)] at hp
      exact hp
    · rw [decide_eq_true (by omega)] at hp
      exact hp
  · exact TB_c_leaks_1 _ _ _ _ _ _ _ ⟨fun _ => hy, fun c => absurd (Int.le_refl _) c⟩
theorem pB_tilesOf {a : Int} (hy : Q (upTo (fun l s => bif tb a l then mAdd s (h 87 l) else s) 0 10 0) h) : qC tFB (d + 1) k_Roofs_tilesOf [86, a] h Q := by
  refine qC_intro (TB_Roofs_tilesOf_0 _ _ _ _ _ _ ?_)
  refine upTo_go (P := fun i (s : Int) => qB tFB d k_Roofs_tilesOf (h 0 0) (h 0 1) Q 1 [(3, 86), (1, a), (1, s), (1, i)] [] h) (f := fun l s => bif tb a l then mAdd s (h 87 l) else s) 0 10 0 (by omega) (fun i s i1 i2 hp => ?_) ?_
  · refine TB_Roofs_tilesOf_1 _ _ _ _ _ _ _ _ ⟨fun c => absurd c (by omega), fun _ => ?_⟩
    rw [mAdd_ok (a := i) (by omega) (by omega)]
    refine ⟨fun c => ?_, fun c => mmD_of (by omega) ?_⟩
    · rw [Ne, bit_is i1 (by omega)] at c
      rw [Bool.eq_false_iff.mpr c] at hp
      exact hp
    · have c := (bit_is i1 (by omega)).mp (Decidable.of_not_not c)
      rw [c] at hp
      exact hp
  · exact TB_Roofs_tilesOf_1 _ _ _ _ _ _ _ _ ⟨fun _ => hy, fun c => absurd (Int.le_refl _) c⟩
theorem pB_ledTo {a : Int} (h1 : 0 ≤ h 86 2) (h2 : h 86 2 ≤ 60) (hy : Q (cntOf (h 86 2) (fun k => decide (h 94 k = a))) h) : qC tFB (d + 1) k_Roofs_ledTo [86, a] h Q := by
  refine qC_intro (TB_Roofs_ledTo_0 _ _ _ _ _ _ ?_)
  refine upTo_go (P := fun i (s : Int) => qB tFB d k_Roofs_ledTo (h 0 0) (h 0 1) Q 1 [(3, 86), (1, a), (1, s), (1, i)] [] h) (f := fun k s => bif decide (h 94 k = a) then mAdd s 1 else s) 0 (h 86 2) 0 (by omega) (fun i s i1 i2 hp => ?_) ?_
  · refine TB_Roofs_ledTo_1 _ _ _ _ _ _ _ _ ⟨fun c => absurd c (by omega), fun _ => ?_⟩
    rw [mAdd_ok (a := i) (by omega) (by omega)]
    refine mmD_of (by omega) ⟨fun c => ?_, fun c => ?_⟩
    · rw [decide_eq_false c] at hp
      exact hp
    · rw [decide_eq_true (by omega)] at hp
      exact hp
  · exact TB_Roofs_ledTo_1 _ _ _ _ _ _ _ _ ⟨fun _ => hy, fun c => absurd (Int.le_refl _) c⟩
theorem pB_guests {a : Int} (h1 : 0 ≤ h 46 3) (h2 : h 46 3 ≤ 6) (hy : Q (cntOf (h 46 3) (fun p => decide (h 88 p = a))) h) : qC tFB (d + 1) k_c_guests [1, a] h Q := by
  refine qC_intro (TB_c_guests_0 _ _ _ _ _ _ ?_)
  refine upTo_go (P := fun i (s : Int) => qB tFB d k_c_guests (h 0 0) (h 0 1) Q 1 [(3, 1), (1, a), (1, s), (1, i)] [] h) (f := fun k s => bif decide (h 88 k = a) then mAdd s 1 else s) 0 (h 46 3) 0 (by omega) (fun i s i1 i2 hp => ?_) ?_
  · refine TB_c_guests_1 _ _ _ _ _ _ _ _ ⟨fun c => absurd c (by omega), fun _ => ?_⟩
    rw [mAdd_ok (a := i) (by omega) (by omega)]
    refine mmD_of (by omega) ⟨fun c => ?_, fun c => ?_⟩
    · rw [decide_eq_false c] at hp
      exact hp
    · rw [decide_eq_true (by omega)] at hp
      exact hp
  · exact TB_c_guests_1 _ _ _ _ _ _ _ _ ⟨fun _ => hy, fun c => absurd (Int.le_refl _) c⟩
end CQB
section CWA5
variable {d : Nat} {h : mmH} {Q : Int → mmH → Prop}
theorem pA5_isLot {a : Int} (hy : ∀ x, YN x (0 ≤ a ∧ a < h 5 1) → Q x h) : qC tFA (d + 1) k_Town_isLot [5, a] h Q :=
  qC_intro (TA5_Town_isLot_0 _ _ _ _ _ _ ⟨fun c1 => hy _ (YN.no (by omega)), fun c1 => ⟨fun c2 => hy _ (YN.no (by omega)), fun c2 => hy _ (YN.yes (by omega))⟩⟩)
theorem pA5_wideOf {a b : Int} (h1 : h 5 1 ≤ 10) (hy : ∀ x, ((0 ≤ a ∧ a < h 5 1) ∧ (0 ≤ b ∧ b < h 5 1) ∧ x = h (28 + a) b) ∨ (x = -1 ∧ ¬ ((0 ≤ a ∧ a < h 5 1) ∧ (0 ≤ b ∧ b < h 5 1))) → Q x h) : qC tFA (d + 2) k_Town_wideOf [5, a, b] h Q := by
  refine qC_intro (TA5_Town_wideOf_0 _ _ _ _ _ _ _ (pA5_isLot (fun x hx => ⟨fun c => hy _ (Or.inr ⟨rfl, fun q => hx.neg c q.1⟩), fun c => pA5_isLot (fun y hz => ⟨fun c2 => hy _ (Or.inr ⟨rfl, fun q => hz.neg c2 q.2⟩), fun c2 => ?_⟩)⟩)))
  have a1 := hx.pos c
  have a2 := hz.pos c2
  simp (disch := omega) only [mmD_iff, mmG_iff, Bool.and_eq_true, Bool.or_eq_true, Nat.beq_refl, true_and, and_true, Option.getD_none, Option.isNone_none, decide_eq_true_eq, lc_lt0, lc_gt0, lc_le0, lc_ge0, lc_eq0, lc_ne0, ite_true, ite_false, fc_tFA_9, fn_tFA_9, fc_tFB_9, fn_tFB_9, sh_9, wn_9, fc_tFA_50, fn_tFA_50, fc_tFB_50, fn_tFB_50, sh_50, wn_50, fc_tFA_20, fn_tFA_20, fc_tFB_20, fn_tFB_20, sh_20, wn_20, fc_tFA_61, fn_tFA_61, fc_tFB_61, fn_tFB_61, sh_61, wn_61, fc_tFA_27, fn_tFA_27, fc_tFB_27, fn_tFB_27, sh_27, wn_27, fc_tFA_68, fn_tFA_68, fc_tFB_68, fn_tFB_68, sh_68, wn_68, fc_tFA_91, fn_tFA_91, fc_tFB_91, fn_tFB_91, sh_91, wn_91]
  exact ⟨by omega, by omega, hy _ (Or.inl ⟨a1, a2, rfl⟩)⟩
end CWA5
section CWA46
variable {d : Nat} {h : mmH} {Q : Int → mmH → Prop}
theorem pA46_isLot {a : Int} (hy : ∀ x, YN x (0 ≤ a ∧ a < h 46 1) → Q x h) : qC tFA (d + 1) k_Town_isLot [46, a] h Q :=
  qC_intro (TA46_Town_isLot_0 _ _ _ _ _ _ ⟨fun c1 => hy _ (YN.no (by omega)), fun c1 => ⟨fun c2 => hy _ (YN.no (by omega)), fun c2 => hy _ (YN.yes (by omega))⟩⟩)
theorem pA46_wideOf {a b : Int} (h1 : h 46 1 ≤ 10) (hy : ∀ x, ((0 ≤ a ∧ a < h 46 1) ∧ (0 ≤ b ∧ b < h 46 1) ∧ x = h (69 + a) b) ∨ (x = -1 ∧ ¬ ((0 ≤ a ∧ a < h 46 1) ∧ (0 ≤ b ∧ b < h 46 1))) → Q x h) : qC tFA (d + 2) k_Town_wideOf [46, a, b] h Q := by
  refine qC_intro (TA46_Town_wideOf_0 _ _ _ _ _ _ _ (pA46_isLot (fun x hx => ⟨fun c => hy _ (Or.inr ⟨rfl, fun q => hx.neg c q.1⟩), fun c => pA46_isLot (fun y hz => ⟨fun c2 => hy _ (Or.inr ⟨rfl, fun q => hz.neg c2 q.2⟩), fun c2 => ?_⟩)⟩)))
  have a1 := hx.pos c
  have a2 := hz.pos c2
  simp (disch := omega) only [mmD_iff, mmG_iff, Bool.and_eq_true, Bool.or_eq_true, Nat.beq_refl, true_and, and_true, Option.getD_none, Option.isNone_none, decide_eq_true_eq, lc_lt0, lc_gt0, lc_le0, lc_ge0, lc_eq0, lc_ne0, ite_true, ite_false, fc_tFA_9, fn_tFA_9, fc_tFB_9, fn_tFB_9, sh_9, wn_9, fc_tFA_50, fn_tFA_50, fc_tFB_50, fn_tFB_50, sh_50, wn_50, fc_tFA_20, fn_tFA_20, fc_tFB_20, fn_tFB_20, sh_20, wn_20, fc_tFA_61, fn_tFA_61, fc_tFB_61, fn_tFB_61, sh_61, wn_61, fc_tFA_27, fn_tFA_27, fc_tFB_27, fn_tFB_27, sh_27, wn_27, fc_tFA_68, fn_tFA_68, fc_tFB_68, fn_tFB_68, sh_68, wn_68, fc_tFA_91, fn_tFA_91, fc_tFB_91, fn_tFB_91, sh_91, wn_91]
  exact ⟨by omega, by omega, hy _ (Or.inl ⟨a1, a2, rfl⟩)⟩
end CWA46
section CWB46
variable {d : Nat} {h : mmH} {Q : Int → mmH → Prop}
theorem pB46_isLot {a : Int} (hy : ∀ x, YN x (0 ≤ a ∧ a < h 46 1) → Q x h) : qC tFB (d + 1) k_Town_isLot [46, a] h Q :=
  qC_intro (TB46_Town_isLot_0 _ _ _ _ _ _ ⟨fun c1 => hy _ (YN.no (by omega)), fun c1 => ⟨fun c2 => hy _ (YN.no (by omega)), fun c2 => hy _ (YN.yes (by omega))⟩⟩)
theorem pB46_wideOf {a b : Int} (h1 : h 46 1 ≤ 10) (hy : ∀ x, ((0 ≤ a ∧ a < h 46 1) ∧ (0 ≤ b ∧ b < h 46 1) ∧ x = h (69 + a) b) ∨ (x = -1 ∧ ¬ ((0 ≤ a ∧ a < h 46 1) ∧ (0 ≤ b ∧ b < h 46 1))) → Q x h) : qC tFB (d + 2) k_Town_wideOf [46, a, b] h Q := by
  refine qC_intro (TB46_Town_wideOf_0 _ _ _ _ _ _ _ (pB46_isLot (fun x hx => ⟨fun c => hy _ (Or.inr ⟨rfl, fun q => hx.neg c q.1⟩), fun c => pB46_isLot (fun y hz => ⟨fun c2 => hy _ (Or.inr ⟨rfl, fun q => hz.neg c2 q.2⟩), fun c2 => ?_⟩)⟩)))
  have a1 := hx.pos c
  have a2 := hz.pos c2
  simp (disch := omega) only [mmD_iff, mmG_iff, Bool.and_eq_true, Bool.or_eq_true, Nat.beq_refl, true_and, and_true, Option.getD_none, Option.isNone_none, decide_eq_true_eq, lc_lt0, lc_gt0, lc_le0, lc_ge0, lc_eq0, lc_ne0, ite_true, ite_false, fc_tFA_9, fn_tFA_9, fc_tFB_9, fn_tFB_9, sh_9, wn_9, fc_tFA_50, fn_tFA_50, fc_tFB_50, fn_tFB_50, sh_50, wn_50, fc_tFA_20, fn_tFA_20, fc_tFB_20, fn_tFB_20, sh_20, wn_20, fc_tFA_61, fn_tFA_61, fc_tFB_61, fn_tFB_61, sh_61, wn_61, fc_tFA_27, fn_tFA_27, fc_tFB_27, fn_tFB_27, sh_27, wn_27, fc_tFA_68, fn_tFA_68, fc_tFB_68, fn_tFB_68, sh_68, wn_68, fc_tFA_91, fn_tFA_91, fc_tFB_91, fn_tFB_91, sh_91, wn_91]
  exact ⟨by omega, by omega, hy _ (Or.inl ⟨a1, a2, rfl⟩)⟩
end CWB46
section CWB5
variable {d : Nat} {h : mmH} {Q : Int → mmH → Prop}
theorem pB5_isLot {a : Int} (hy : ∀ x, YN x (0 ≤ a ∧ a < h 5 1) → Q x h) : qC tFB (d + 1) k_Town_isLot [5, a] h Q :=
  qC_intro (TB5_Town_isLot_0 _ _ _ _ _ _ ⟨fun c1 => hy _ (YN.no (by omega)), fun c1 => ⟨fun c2 => hy _ (YN.no (by omega)), fun c2 => hy _ (YN.yes (by omega))⟩⟩)
theorem pB5_wideOf {a b : Int} (h1 : h 5 1 ≤ 10) (hy : ∀ x, ((0 ≤ a ∧ a < h 5 1) ∧ (0 ≤ b ∧ b < h 5 1) ∧ x = h (28 + a) b) ∨ (x = -1 ∧ ¬ ((0 ≤ a ∧ a < h 5 1) ∧ (0 ≤ b ∧ b < h 5 1))) → Q x h) : qC tFB (d + 2) k_Town_wideOf [5, a, b] h Q := by
  refine qC_intro (TB5_Town_wideOf_0 _ _ _ _ _ _ _ (pB5_isLot (fun x hx => ⟨fun c => hy _ (Or.inr ⟨rfl, fun q => hx.neg c q.1⟩), fun c => pB5_isLot (fun y hz => ⟨fun c2 => hy _ (Or.inr ⟨rfl, fun q => hz.neg c2 q.2⟩), fun c2 => ?_⟩)⟩)))
  have a1 := hx.pos c
  have a2 := hz.pos c2
  simp (disch := omega) only [mmD_iff, mmG_iff, Bool.and_eq_true, Bool.or_eq_true, Nat.beq_refl, true_and, and_true, Option.getD_none, Option.isNone_none, decide_eq_true_eq, lc_lt0, lc_gt0, lc_le0, lc_ge0, lc_eq0, lc_ne0, ite_true, ite_false, fc_tFA_9, fn_tFA_9, fc_tFB_9, fn_tFB_9, sh_9, wn_9, fc_tFA_50, fn_tFA_50, fc_tFB_50, fn_tFB_50, sh_50, wn_50, fc_tFA_20, fn_tFA_20, fc_tFB_20, fn_tFB_20, sh_20, wn_20, fc_tFA_61, fn_tFA_61, fc_tFB_61, fn_tFB_61, sh_61, wn_61, fc_tFA_27, fn_tFA_27, fc_tFB_27, fn_tFB_27, sh_27, wn_27, fc_tFA_68, fn_tFA_68, fc_tFB_68, fn_tFB_68, sh_68, wn_68, fc_tFA_91, fn_tFA_91, fc_tFB_91, fn_tFB_91, sh_91, wn_91]
  exact ⟨by omega, by omega, hy _ (Or.inl ⟨a1, a2, rfl⟩)⟩
end CWB5
