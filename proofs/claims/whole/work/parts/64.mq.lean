/-! ===== mm: the reference's small readers ===== -/
theorem lc_lt0 {a b : Int} : mLcmp a b < 0 ↔ a < b := by unfold mLcmp; (repeat' split) <;> omega
theorem lc_gt0 {a b : Int} : 0 < mLcmp a b ↔ b < a := by unfold mLcmp; (repeat' split) <;> omega
theorem lc_le0 {a b : Int} : mLcmp a b ≤ 0 ↔ a ≤ b := by unfold mLcmp; (repeat' split) <;> omega
theorem lc_ge0 {a b : Int} : 0 ≤ mLcmp a b ↔ b ≤ a := by unfold mLcmp; (repeat' split) <;> omega
theorem lc_eq0 {a b : Int} : mLcmp a b = 0 ↔ a = b := by unfold mLcmp; (repeat' split) <;> omega
theorem lc_ne0 {a b : Int} : mLcmp a b ≠ 0 ↔ a ≠ b := by rw [Ne, lc_eq0]
/-- yes or no -/
def YN (x : Int) (P : Prop) : Prop := (x = 1 ∧ P) ∨ (x = 0 ∧ ¬ P)
theorem YN.b {x : Int} {P : Prop} (h : YN x P) : x = 0 ∨ x = 1 := by rcases h with h | h <;> omega
theorem YN.pos {x : Int} {P : Prop} (h : YN x P) (c : x ≠ 0) : P := by rcases h with ⟨a, b⟩ | ⟨a, b⟩; exact b; exact absurd a c
theorem YN.neg {x : Int} {P : Prop} (h : YN x P) (c : x = 0) : ¬ P := by rcases h with ⟨a, b⟩ | ⟨a, b⟩; omega; exact b
theorem YN.yes {P : Prop} (h : P) : YN 1 P := Or.inl ⟨rfl, h⟩
theorem YN.no {P : Prop} (h : ¬ P) : YN 0 P := Or.inr ⟨rfl, h⟩
theorem YN.congr {x : Int} {P P' : Prop} (h : YN x P) (e : P ↔ P') : YN x P' := by
  rcases h with ⟨a, b⟩ | ⟨a, b⟩
  · exact Or.inl ⟨a, e.mp b⟩
  · exact Or.inr ⟨a, fun q => b (e.mpr q)⟩
theorem YN.uniq {x y : Int} {P : Prop} (h : YN x P) (h' : YN y P) : x = y := by
  rcases h with ⟨a, b⟩ | ⟨a, b⟩ <;> rcases h' with ⟨c, e⟩ | ⟨c, e⟩
  · omega
  · exact absurd b e
  · exact absurd e b
  · omega
section MQ
variable {d : Nat} {h : mmH} {Q : Int → mmH → Prop}
theorem q_m_lotMany (hy : Q (h 313 6) h) : qC tFM (d + 1) k_m_lotMany [282] h Q := qC_intro (T_m_lotMany_0 _ _ _ _ _ hy)
theorem q_m_personMany (hy : Q (h 313 7) h) : qC tFM (d + 1) k_m_personMany [282] h Q := qC_intro (T_m_personMany_0 _ _ _ _ _ hy)
theorem q_m_ownerMany (hy : Q (h 313 5) h) : qC tFM (d + 1) k_m_ownerMany [282] h Q := qC_intro (T_m_ownerMany_0 _ _ _ _ _ hy)
theorem q_m_isIn {a b c : Int} (hy : ∀ x, YN x (b ≤ a ∧ a ≤ c) → Q x h) : qC tFM (d + 1) k_m_isIn [a, b, c] h Q := by
  refine qC_intro (T_m_isIn_0 _ _ _ _ _ _ _ _ ?_)
  simp only [mmD_iff, mmG_iff, Bool.and_eq_true, Bool.or_eq_true, Nat.beq_refl, true_and, and_true, Option.getD_none, Option.isNone_none, decide_eq_true_eq, lc_lt0, lc_gt0, lc_le0, lc_ge0, lc_eq0, lc_ne0, ite_true, ite_false]
  refine ⟨fun c1 => hy _ (YN.no (by omega)), fun c1 => ⟨fun c2 => hy _ (YN.no (by omega)), fun c2 => hy _ (YN.yes (by omega))⟩⟩
theorem q_m_isLot {a : Int} (h1 : 0 ≤ h 313 6) (h2 : h 313 6 ≤ 10) (hy : ∀ x, YN x (0 ≤ a ∧ a < h 313 6) → Q x h) : qC tFM (d + 2) k_m_isLot [282, a] h Q := by
  refine qC_intro (T_m_isLot_0 _ _ _ _ _ _ (q_m_lotMany (q_m_isIn (fun x hx => ?_))))
  rw [mSub_ok (by omega) (by omega)] at hx
  exact mmG_of (by have := hx.b; simp; omega) (hy x (hx.congr (by omega)))
theorem q_m_isPerson {a : Int} (h1 : 0 ≤ h 313 7) (h2 : h 313 7 ≤ 6) (hy : ∀ x, YN x (0 ≤ a ∧ a < h 313 7) → Q x h) : qC tFM (d + 2) k_m_isPerson [282, a] h Q := by
  refine qC_intro (T_m_isPerson_0 _ _ _ _ _ _ (q_m_personMany (q_m_isIn (fun x hx => ?_))))
  rw [mSub_ok (by omega) (by omega)] at hx
  exact mmG_of (by have := hx.b; simp; omega) (hy x (hx.congr (by omega)))
theorem q_m_ownerOf {a : Int} (h1 : 0 ≤ a) (h2 : a < 10) (hy : Q (h 315 (50 + 5 * a)) h) : qC tFM (d + 1) k_m_ownerOf [282, a] h Q := by
  refine qC_intro (T_m_ownerOf_0 _ _ _ _ _ _ ?_)
  rw [mMul_ok (by omega) (by omega), mAdd_ok (by omega) (by omega)]
  exact mmD_of (by omega) hy
theorem q_m_heightOf {a : Int} (h1 : 0 ≤ a) (h2 : a < 10) (hy : Q (h 315 (50 + 5 * a + 1)) h) : qC tFM (d + 1) k_m_heightOf [282, a] h Q := by
  refine qC_intro (T_m_heightOf_0 _ _ _ _ _ _ ?_)
  rw [mMul_ok (by omega) (by omega), mAdd_ok (a := 50) (by omega) (by omega), mAdd_ok (by omega) (by omega)]
  exact mmD_of (by omega) hy
theorem q_m_bedsOf {a : Int} (h1 : 0 ≤ a) (h2 : a < 10) (hy : Q (h 315 (50 + 5 * a + 3)) h) : qC tFM (d + 1) k_m_bedsOf [282, a] h Q := by
  refine qC_intro (T_m_bedsOf_0 _ _ _ _ _ _ ?_)
  rw [mMul_ok (by omega) (by omega), mAdd_ok (a := 50) (by omega) (by omega), mAdd_ok (by omega) (by omega)]
  exact mmD_of (by omega) hy
theorem q_m_hasStork {a : Int} (h1 : 0 ≤ a) (h2 : a < 10) (hy : ∀ x, YN x (h 315 (50 + 5 * a + 4) = 1) → Q x h) : qC tFM (d + 1) k_m_hasStork [282, a] h Q := by
  refine qC_intro (T_m_hasStork_0 _ _ _ _ _ _ ?_)
  rw [mMul_ok (by omega) (by omega), mAdd_ok (a := 50) (by omega) (by omega), mAdd_ok (by omega) (by omega)]
  exact mmD_of (by omega) ⟨fun c => hy _ (YN.no c), fun c => hy _ (YN.yes (by omega))⟩
theorem q_m_tilesOf {a : Int} (h1 : 0 ≤ a) (h2 : a < 10) (hy : Q (h 329 (2 + a)) h) : qC tFM (d + 1) k_m_tilesOf [282, a] h Q := by
  refine qC_intro (T_m_tilesOf_0 _ _ _ _ _ _ ?_)
  rw [mAdd_ok (by omega) (by omega)]
  exact mmD_of (by omega) hy
theorem q_m_personOf {a b : Int} (h1 : 0 ≤ a) (h2 : a < 6) (h3 : 0 ≤ b) (h4 : b < 6) (hy : Q (h 317 (36 + 6 * a + b)) h) : qC tFM (d + 1) k_m_personOf [282, a, b] h Q := by
  refine qC_intro (T_m_personOf_0 _ _ _ _ _ _ _ ?_)
  rw [mMul_ok (by omega) (by omega), mAdd_ok (a := 36) (by omega) (by omega), mAdd_ok (by omega) (by omega)]
  exact mmD_of (by omega) hy
theorem q_m_placeOf {a : Int} (h1 : 0 ≤ a) (h2 : a < 6) (hy : Q (h 329 (12 + 2 * a)) h) : qC tFM (d + 1) k_m_placeOf [282, a] h Q := by
  refine qC_intro (T_m_placeOf_0 _ _ _ _ _ _ ?_)
  rw [mMul_ok (by omega) (by omega), mAdd_ok (by omega) (by omega)]
  exact mmD_of (by omega) hy
theorem q_m_goalOf {a : Int} (h1 : 0 ≤ a) (h2 : a < 6) (hy : Q (h 329 (12 + 2 * a + 1)) h) : qC tFM (d + 1) k_m_goalOf [282, a] h Q := by
  refine qC_intro (T_m_goalOf_0 _ _ _ _ _ _ ?_)
  rw [mMul_ok (by omega) (by omega), mAdd_ok (a := 12) (by omega) (by omega), mAdd_ok (by omega) (by omega)]
  exact mmD_of (by omega) hy
theorem q_m_ledTo {a : Int} (h1 : 0 ≤ h 329 29) (h2 : h 329 29 ≤ 60) (hy : Q (cntOf (h 329 29) (fun k => decide (h 329 (30 + 3 * k + 2) = a))) h) : qC tFM (d + 1) k_m_ledTo [282, a] h Q := by
  refine qC_intro (T_m_ledTo_0 _ _ _ _ _ _ ?_)
  refine upTo_go (P := fun i (s : Int) => qB tFM d k_m_ledTo (h 0 0) (h 0 1) Q 1 [(3, 282), (1, a), (1, s), (1, i)] [] h) (f := fun k s => bif decide (h 329 (30 + 3 * k + 2) = a) then mAdd s 1 else s) 0 (h 329 29) 0 (by omega) (fun i s i1 i2 hp => ?_) ?_
  · refine T_m_ledTo_1 _ _ _ _ _ _ _ _ ⟨fun c => absurd c (by omega), fun _ => ?_⟩
    rw [mMul_ok (by omega) (by omega), mAdd_ok (a := 30) (by omega) (by omega), mAdd_ok (a := 30 + 3 * i) (by omega) (by omega), mAdd_ok (a := i) (by omega) (by omega)]
    refine mmD_of (by omega) ⟨fun c => ?_, fun c => ?_⟩
    · rw [decide_eq_false c] at hp
      exact hp
    · rw [decide_eq_true (by omega)] at hp
      exact hp
  · exact T_m_ledTo_1 _ _ _ _ _ _ _ _ ⟨fun _ => hy, fun c => absurd (Int.le_refl _) c⟩
theorem q_m_tilesAll (h1 : 0 ≤ h 313 6) (h2 : h 313 6 ≤ 10) (hy : Q (sumOf (h 313 6) (fun l => h 329 (2 + l))) h) : qC tFM (d + 2) k_m_tilesAll [282] h Q := by
  refine qC_intro (T_m_tilesAll_0 _ _ _ _ _ ?_)
  refine upTo_go (P := fun i (s : Int) => qB tFM (d + 1) k_m_tilesAll (h 0 0) (h 0 1) Q 1 [(3, 282), (1, s), (1, i)] [] h) (f := fun l s => mAdd s (h 329 (2 + l))) 0 (h 313 6) 0 (by omega) (fun i s i1 i2 hp => ?_) ?_
  · refine T_m_tilesAll_1 _ _ _ _ _ _ _ (q_m_lotMany ⟨fun c => absurd c (by omega), fun _ => q_m_tilesOf i1 (by omega) ?_⟩)
    rw [mAdd_ok (a := i) (by omega) (by omega)]
    exact hp
  · exact T_m_tilesAll_1 _ _ _ _ _ _ _ (q_m_lotMany ⟨fun _ => hy, fun c => absurd (Int.le_refl _) c⟩)
theorem q_m_holes (h1 : 0 ≤ h 313 6) (h2 : h 313 6 ≤ 10) (hy : Q (setOf (h 313 6) (fun l => decide (h 329 (2 + l) = 0))) h) : qC tFM (d + 2) k_m_holes [282] h Q := by
  refine qC_intro (T_m_holes_0 _ _ _ _ _ ?_)
  refine upTo_go (P := fun i (s : Int) => qB tFM (d + 1) k_m_holes (h 0 0) (h 0 1) Q 1 [(3, 282), (1, s), (1, i)] [] h) (f := fun l s => bif decide (h 329 (2 + l) = 0) then mOr s (mShl 1 l) else s) 0 (h 313 6) 0 (by omega) (fun i s i1 i2 hp => ?_) ?_
  · refine T_m_holes_1 _ _ _ _ _ _ _ (q_m_lotMany ⟨fun c => absurd c (by omega), fun _ => q_m_tilesOf i1 (by omega) ?_⟩)
    rw [mAdd_ok (a := i) (by omega) (by omega)]
    refine ⟨fun c => ?_, fun c => ?_⟩
    · rw [decide_eq_false c] at hp
      exact hp
    · rw [decide_eq_true (by omega)] at hp
      exact hp
  · exact T_m_holes_1 _ _ _ _ _ _ _ (q_m_lotMany ⟨fun _ => hy, fun c => absurd (Int.le_refl _) c⟩)
theorem q_m_leaks (h1 : 0 ≤ h 313 6) (h2 : h 313 6 ≤ 10) (hy : Q (setOf (h 313 6) (fun l => decide (h 329 (2 + l) < 3))) h) : qC tFM (d + 2) k_m_leaks [282] h Q := by
  refine qC_intro (T_m_leaks_0 _ _ _ _ _ ?_)
  refine upTo_go (P := fun i (s : Int) => qB tFM (d + 1) k_m_leaks (h 0 0) (h 0 1) Q 1 [(3, 282), (1, s), (1, i)] [] h) (f := fun l s => bif decide (h 329 (2 + l) < 3) then mOr s (mShl 1 l) else s) 0 (h 313 6) 0 (by omega) (fun i s i1 i2 hp => ?_) ?_
  · refine T_m_leaks_1 _ _ _ _ _ _ _ (q_m_lotMany ⟨fun c => absurd c (by omega), fun _ => q_m_tilesOf i1 (by omega) ?_⟩)
    rw [mAdd_ok (a := i) (by omega) (by omega)]
    refine ⟨fun c => ?_, fun c => ?_⟩
    · rw [decide_eq_false (by omega)] at hp
      exact hp
    · rw [decide_eq_true (by omega)] at hp
      exact hp
  · exact T_m_leaks_1 _ _ _ _ _ _ _ (q_m_lotMany ⟨fun _ => hy, fun c => absurd (Int.le_refl _) c⟩)
theorem q_m_thereAt {a : Int} (h1 : 0 ≤ h 313 7) (h2 : h 313 7 ≤ 6) (hy : Q (cntOf (h 313 7) (fun p => decide (h 329 (12 + 2 * p) = a))) h) : qC tFM (d + 2) k_m_thereAt [282, a] h Q := by
  refine qC_intro (T_m_thereAt_0 _ _ _ _ _ _ ?_)
  refine upTo_go (P := fun i (s : Int) => qB tFM (d + 1) k_m_thereAt (h 0 0) (h 0 1) Q 1 [(3, 282), (1, a), (1, s), (1, i)] [] h) (f := fun k s => bif decide (h 329 (12 + 2 * k) = a) then mAdd s 1 else s) 0 (h 313 7) 0 (by omega) (fun i s i1 i2 hp => ?_) ?_
  · refine T_m_thereAt_1 _ _ _ _ _ _ _ _ (q_m_personMany ⟨fun c => absurd c (by omega), fun _ => q_m_placeOf i1 (by omega) ?_⟩)
    rw [mAdd_ok (a := i) (by omega) (by omega)]
    refine ⟨fun c => ?_, fun c => ?_⟩
    · rw [decide_eq_false c] at hp
      exact hp
    · rw [decide_eq_true (by omega)] at hp
      exact hp
  · exact T_m_thereAt_1 _ _ _ _ _ _ _ _ (q_m_personMany ⟨fun _ => hy, fun c => absurd (Int.le_refl _) c⟩)
end MQ
