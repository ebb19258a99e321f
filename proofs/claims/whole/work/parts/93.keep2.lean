/-! ===== mm: keeping for undo, on both sides ===== -/
section KKA
variable {d : Nat} {h m0 : mmH} {Q : Int → mmH → Prop}
theorem pA_keepForUndo (n6 : 0 ≤ h 1 6 ∧ h 1 6 < 20) (n7 : 0 ≤ h 1 7 ∧ h 1 7 ≤ 20) (hy : ∀ h', kept h h' → Q 0 h') : qC tFA (d + 2) k_c_keepForUndo [1] h Q := by
  have hr : rfI (102 + 9 * h 1 6) := Or.inr ⟨h 1 6, n6, rfl⟩
  have o1 := rfA hr
  simp only [rfOk, Bool.and_eq_true] at o1
  refine qC_intro (TA_c_keepForUndo_0 _ _ _ _ _ ?_)
  rw [f95A n6.1 n6.2]
  refine mmD_of (by omega) (mmG_of o1.1 (pA_copyFrom hr (Or.inl rfl) (by omega) (fun h1 hc => ?_)))
  have e6 : h1 1 6 = h 1 6 := hc.1 1 6 (by omega)
  have e7 : h1 1 7 = h 1 7 := hc.1 1 7 (by omega)
  rw [e6, e7, mAdd_ok (by omega) (by omega), mAdd_ok (by omega) (by omega), mRem_nn (by omega) (by omega) (by decide) (by decide)]
  exact hy _ ⟨h1, hc, rfl⟩
end KKA
section KKB
variable {d : Nat} {h m0 : mmH} {Q : Int → mmH → Prop}
theorem pB_keepForUndo (n6 : 0 ≤ h 1 6 ∧ h 1 6 < 20) (n7 : 0 ≤ h 1 7 ∧ h 1 7 ≤ 20) (hy : ∀ h', kept h h' → Q 0 h') : qC tFB (d + 2) k_c_keepForUndo [1] h Q := by
  have hr : rfI (102 + 9 * h 1 6) := Or.inr ⟨h 1 6, n6, rfl⟩
  have o1 := rfB hr
  simp only [rfOk, Bool.and_eq_true] at o1
  refine qC_intro (TB_c_keepForUndo_0 _ _ _ _ _ ?_)
  rw [f95B n6.1 n6.2]
  refine mmD_of (by omega) (mmG_of o1.1 (pB_copyFrom hr (Or.inl rfl) (by omega) (fun h1 hc => ?_)))
  have e6 : h1 1 6 = h 1 6 := hc.1 1 6 (by omega)
  have e7 : h1 1 7 = h 1 7 := hc.1 1 7 (by omega)
  rw [e6, e7, mAdd_ok (by omega) (by omega), mAdd_ok (by omega) (by omega), mRem_nn (by omega) (by omega) (by decide) (by decide)]
  exact hy _ ⟨h1, hc, rfl⟩
end KKB
section KM
variable {d : Nat} {h : mmH} {Q : Int → mmH → Prop}
theorem q_m_keeps (n8 : 0 ≤ h 282 68 ∧ h 282 68 < 20) (n7 : 0 ≤ h 282 67 ∧ h 282 67 ≤ 20) (hy : ∀ h', keptM h h' → Q 0 h') : qC tFM (d + 1) k_m_keeps [282] h Q := by
  refine qC_intro (T_m_keeps_0 _ _ _ _ _ ?_)
  rw [mAdd_ok (by omega) (by omega), mRem_nn (by omega) (by omega) (by decide) (by decide)]
  have key : ∀ (j : Nat) (i : Int) (h1 : mmH), i + j = 210 → 0 ≤ i → (∀ k l, ¬ (k = 334 ∨ (k = 282 ∧ l = 68)) → h1 k l = h k l) → h1 282 68 = (h 282 68 + 1) % 20 → (∀ l, h1 334 l = if 210 * ((h 282 68 + 1) % 20) ≤ l ∧ l < 210 * ((h 282 68 + 1) % 20) + i then h 329 (l - 210 * ((h 282 68 + 1) % 20)) else h 334 l) → qB tFM d k_m_keeps (h 0 0) (h 0 1) Q 1 [(3, 282), (1, i)] [] h1 := by
    intro j
    induction j with
    | zero =>
      intro i h1 hi i0 f1 f68 f334
      have e7 : h1 282 67 = h 282 67 := f1 282 67 (by omega)
      have hi' : i = 210 := by omega
      subst hi'
      refine T_m_keeps_1 _ _ _ _ _ _ ⟨fun _ => ⟨fun c => hy _ ⟨fun k l q => f1 k l (by omega), f68, ?_, f334⟩, fun c => hy _ ⟨fun k l q => ?_, ?_, ?_, fun l => ?_⟩⟩, fun c => absurd (by omega) c⟩
      · rw [if_pos (by omega)]; exact e7
      · by_cases q1 : k = 282
        · subst q1
          rw [mmS_slot, if_neg (by omega)]
          exact f1 _ _ (by omega)
        · rw [mmS_cell q1]
          exact f1 _ _ (by omega)
      · rw [mmS_slot, if_neg (by omega)]; exact f68
      · rw [mmS_slot, if_pos rfl, e7, mAdd_ok (by omega) (by omega), if_neg (by omega)]
      · rw [mmS_cell (by omega)]; exact f334 l
    | succ j ih =>
      intro i h1 hi i0 f1 f68 f334
      refine T_m_keeps_1 _ _ _ _ _ _ ⟨fun c => absurd c (by omega), fun _ => ?_⟩
      rw [f68, mMul_ok (by omega) (by omega), mAdd_ok (a := i) (by omega) (by omega), mAdd_ok (by omega) (by omega)]
      refine mmD_of (by omega) (mmD_of (by omega) (ih (i + 1) _ (by omega) (by omega) (fun k l q => ?_) ?_ (fun l => ?_)))
      · rw [mmS_cell (by omega)]; exact f1 k l q
      · rw [mmS_cell (by omega)]; exact f68
      · rw [mmS_slot, f334 l]
        have e9 : h1 329 i = h 329 i := f1 329 i (by omega)
        by_cases q : l = 210 * ((h 282 68 + 1) % 20) + i
        · rw [if_pos q, if_pos (by omega), e9, show l - 210 * ((h 282 68 + 1) % 20) = i by omega]
        · rw [if_neg q]
          by_cases q2 : 210 * ((h 282 68 + 1) % 20) ≤ l ∧ l < 210 * ((h 282 68 + 1) % 20) + i
          · rw [if_pos q2, if_pos (by omega)]
          · rw [if_neg q2, if_neg (by omega)]
  refine key 210 0 _ (by omega) (by omega) (fun k l q => ?_) ?_ (fun l => ?_)
  · by_cases q1 : k = 282
    · subst q1
      rw [mmS_slot, if_neg (by omega)]
    · rw [mmS_cell q1]
  · rw [mmS_slot, if_pos rfl]
  · rw [mmS_cell (by omega), if_neg (by omega)]
end KM
