/-! ===== mm: leading over, the reference ===== -/
section WL
variable {d : Nat} {u : Int} {g h : mmH} {Q : Int → mmH → Prop}
theorem Nw_led {g2 h2 : mmH} (hu : u = 5 ∨ u = 46) (hg : ∀ k i, ¬ ((92 ≤ k ∧ k ≤ 94) ∨ (k = 86 ∧ i = 2)) → g2 k i = g k i) (hh : ∀ i, i < 29 → h2 329 i = h 329 i) (n : g u 0 ≤ 5 ∧ g u 1 ≤ 10 ∧ g u 3 ≤ 6) (hc : h2 329 29 = g2 86 2 ∧ 0 ≤ g2 86 2 ∧ g2 86 2 ≤ 60) (he : ∀ k, 0 ≤ k → k < g2 86 2 → h2 329 (30 + 3 * k) = g2 92 k ∧ h2 329 (30 + 3 * k + 1) = g2 93 k ∧ h2 329 (30 + 3 * k + 2) = g2 94 k) (hN : Nw 86 329 0 u g h) : Nw 86 329 0 u g2 h2 := by
  obtain ⟨a1, a2, a3, a4, a5, a6, a7⟩ := hN
  simp only [Int.reduceAdd, Int.zero_add] at a1 a2 a3 a4 a5 a6 a7
  unfold Nw
  simp only [Int.reduceAdd, Int.zero_add]
  rw [hg u 0 (by omega), hg u 1 (by omega), hg u 3 (by omega), hg 86 0 (by omega), hg 86 1 (by omega), hh 0 (by omega), hh 1 (by omega)]
  refine ⟨a1, a2, hc, fun l l1 l2 => ?_, fun p p1 p2 => ?_, fun q q1 q2 => ?_, he⟩
  · rw [hg 87 _ (by omega), hh _ (by omega)]; exact a4 l l1 l2
  · rw [hg 88 _ (by omega), hg 89 _ (by omega), hh _ (by omega), hh _ (by omega)]; exact a5 p p1 p2
  · rw [hg 90 _ (by omega), hh _ (by omega)]; exact a6 q q1 q2
end WL
