/-! ===== mm: a town told, coupled ===== -/
section TO
variable {d e : Nat} {u v n0 z0 k : Int} {m g g' g1 h h' E : mmH} {Q : Int → mmH → Prop}
theorem Tn_stands (hv : v = 5 ∨ v = 46) (hT : Tz v g h) (hl : g (v + 33) 1 ≤ 1600) (hS : Stnd h h') : Tn v 1 g h' := by
  obtain ⟨⟨⟨a0, a1, a2, a3, a4⟩, ⟨b0, b1, b2, b3, b4⟩, c1, c2, c3, c4⟩, t2, t3, ⟨t4, -⟩, ⟨t51, t52, t53⟩, ⟨t61, t62, t63⟩⟩ := hT
  obtain ⟨-, ⟨s3, s4, s5, s6, s7⟩, ⟨s8, s9⟩, sL, sC, -, -⟩ := hS
  refine ⟨⟨⟨?_, ?_, ?_, ?_, ?_⟩, ⟨b0, b1, b2, b3, b4⟩, c1, c2, s9.trans c3, Or.inl (s8.trans c4)⟩, fun l l1 l2 => ?_, fun p p1 p2 => ?_, fun a b p1 p2 q1 q2 => ?_, ⟨fun k k1 k2 => ?_, fun k k1 k2 => ?_, fun k k1 k2 => ?_⟩, fun k k1 k2 => ?_⟩
  · exact (s3 0 (by omega) (by omega)).trans a0
  · exact (s3 1 (by omega) (by omega)).trans a1
  · exact (s3 2 (by omega) (by omega)).trans a2
  · exact (s3 3 (by omega) (by omega)).trans a3
  · exact (s3 4 (by omega) (by omega)).trans a4
  · have L0 : h' 315 (50 * 1 + 5 * l) = h 315 (5 * l) := by rw [show 50 * 1 + 5 * l = 50 + 5 * l by omega]; exact s5 _ (by omega) (by omega)
    have L : ∀ c, 0 ≤ c → c < 5 → h' 315 (50 * 1 + 5 * l + c) = h 315 (5 * l + c) := fun c _ _ => by rw [show 50 * 1 + 5 * l + c = 50 + (5 * l + c) by omega]; exact s5 _ (by omega) (by omega)
    rw [L0, L 1 (by omega) (by omega), L 2 (by omega) (by omega), L 3 (by omega) (by omega), L 4 (by omega) (by omega)]
    exact t2 l l1 l2
  · refine ⟨fun c d1 d2 => ?_, (t3 p p1 p2).2⟩
    rw [show 36 * 1 + 6 * p + c = 36 + (6 * p + c) by omega, s7 _ (by omega) (by omega)]
    exact (t3 p p1 p2).1 c d1 d2
  · rw [show 100 * 1 + 10 * a + b = 100 + (10 * a + b) by omega, s6 _ (by omega) (by omega)]
    exact t4 a b p1 p2 q1 q2
  · rw [show 30 * 1 + k = 30 + k by omega, s4 _ (by omega) (by omega)]
    exact t51 k k1 k2
  · rw [show 30 * 1 + 10 + k = 30 + (10 + k) by omega, s4 _ (by omega) (by omega)]
    exact t52 k k1 k2
  · rw [show 30 * 1 + 20 + k = 30 + (20 + k) by omega, s4 _ (by omega) (by omega)]
    exact t53 k k1 k2
  · obtain ⟨q1, q2, q3, q4, q5, q6, q7, q8, q9⟩ := t61 k k1 k2
    obtain ⟨r1, r2, r3, r4, r5⟩ := sL k k1 (by omega)
    rw [show 8 * 1 + k = 8 + k by omega, r1, r2, r3, r4, r5]
    refine ⟨q1, q2, q3, q4, q5, q6, by omega, q8, q9, fun j j1 j2 => ?_⟩
    rw [show 1600 * 1 + j = 1600 + j by omega, sC j (by omega) (by omega)]
    exact t63 j (by omega) (by omega)
/-- opened, the reference -/
def opM (h h' : mmH) : Prop := Fr ScM (mmS h 282 1 0) h' ∧ (h' 282 3 = h 282 1 ∧ h' 282 2 = 0 ∧ h' 282 4 = -1 ∧ h' 282 5 = 0 ∧ h' 282 6 = -1 ∧ h' 282 48 = 0 ∧ h' 282 50 = 0 ∧ h' 318 0 = 5 ∧ h' 319 0 = 0) ∧ ∀ i, 0 ≤ i → i < 5 → h' 313 i = 0
theorem t_open (hy : ∀ h', opM h h' → qB tFM d k_m_town (h 0 0) (h 0 1) Q 2 [(3, 282), (1, 5)] [] h') : qC tFM (d + 1) k_m_town [282] h Q := by
  refine qC_intro (T_m_town_0 _ _ _ _ _ (T_m_town_0_19 _ _ _ _ _ ?_))
  have key : ∀ (j : Nat) (k : Int) (y : mmH), 0 ≤ k → k + j = 5 → (Fr ScM (mmS h 282 1 0) y ∧ (y 282 3 = h 282 1 ∧ y 282 2 = 0 ∧ y 282 4 = -1 ∧ y 282 5 = 0 ∧ y 282 6 = -1 ∧ y 282 48 = 0 ∧ y 282 50 = 0 ∧ y 318 0 = 5 ∧ y 319 0 = 0) ∧ ∀ i, 0 ≤ i → i < k → y 313 i = 0) → qB tFM d k_m_town (h 0 0) (h 0 1) Q 1 [(3, 282), (1, k)] [] y := by
    intro j
    induction j with
    | zero =>
      intro k y k0 hk c
      have e : k = 5 := by omega
      subst e
      exact T_m_town_1 _ _ _ _ _ _ ⟨fun _ => hy y c, fun q => absurd (by omega) q⟩
    | succ j ih =>
      intro k y k0 hk c
      refine T_m_town_1 _ _ _ _ _ _ ⟨fun q => absurd q (by omega), fun _ => ?_⟩
      rw [mmD_iff, mAdd_ok (a := k) (by omega) (by omega)]
      obtain ⟨c1, c2, c3⟩ := c
      refine ⟨by omega, ih (k + 1) _ (by omega) (by omega) ⟨c1.put (by unfold ScM; omega), ?_, fun i i1 i2 => ?_⟩⟩
      · rw [mmS_row (a := 282) (by decide), mmS_row (a := 318) (by decide), mmS_row (a := 319) (by decide)]
        exact c2
      · rw [mmS_slot]
        by_cases q : i = k
        · rw [if_pos q]
        · rw [if_neg q]; exact c3 i i1 (by omega)
  refine key 5 0 _ (by omega) (by omega) ⟨?_, ?_, fun i i1 i2 => by omega⟩
  · intro k i q
    have q' : ¬ ScM k i := q
    unfold ScM at q'
    by_cases c : k = 282
    · subst c
      rw [mmS_cell (by decide), mmS_cell (by decide), mmS_slot, if_neg (by omega), mmS_slot, if_neg (by omega), mmS_slot, if_neg (by omega), mmS_slot, if_neg (by omega), mmS_slot, if_neg (by omega), mmS_slot, if_neg (by omega), mmS_slot, mmS_slot, mmS_slot]
      by_cases i1 : i = 1
      · rw [if_pos i1, if_pos i1]
      · rw [if_neg i1, if_neg i1, if_neg (by omega)]
    · by_cases c9 : k = 319
      · subst c9
        rw [mmS_slot, if_neg (by omega), mmS_cell (by decide), mmS_cell c, mmS_cell c, mmS_cell c, mmS_cell c, mmS_cell c, mmS_cell c, mmS_cell c, mmS_cell c, mmS_cell c]
      · by_cases c8 : k = 318
        · subst c8
          rw [mmS_cell (by decide), mmS_slot, if_neg (by omega), mmS_cell c, mmS_cell c, mmS_cell c, mmS_cell c, mmS_cell c, mmS_cell c, mmS_cell c, mmS_cell c, mmS_cell c]
        · rw [mmS_cell c9, mmS_cell c8, mmS_cell c, mmS_cell c, mmS_cell c, mmS_cell c, mmS_cell c, mmS_cell c, mmS_cell c, mmS_cell c, mmS_cell c]
  · refine ⟨?_, ?_, ?_, ?_, ?_, ?_, ?_, ?_, ?_⟩
    · rw [mmS_cell (by decide), mmS_cell (by decide), mmS_slot, if_neg (by decide), mmS_slot, if_neg (by decide), mmS_slot, if_neg (by decide), mmS_slot, if_neg (by decide), mmS_slot, if_neg (by decide), mmS_slot, if_neg (by decide), mmS_slot, if_neg (by decide), mmS_slot, if_pos rfl]
    · rw [mmS_cell (by decide), mmS_cell (by decide), mmS_slot, if_neg (by decide), mmS_slot, if_neg (by decide), mmS_slot, if_neg (by decide), mmS_slot, if_neg (by decide), mmS_slot, if_neg (by decide), mmS_slot, if_pos rfl]
    · rw [mmS_cell (by decide), mmS_cell (by decide), mmS_slot, if_neg (by decide), mmS_slot, if_neg (by decide), mmS_slot, if_neg (by decide), mmS_slot, if_neg (by decide), mmS_slot, if_pos rfl]
    · rw [mmS_cell (by decide), mmS_cell (by decide), mmS_slot, if_neg (by decide), mmS_slot, if_neg (by decide), mmS_slot, if_neg (by decide), mmS_slot, if_pos rfl]
    · rw [mmS_cell (by decide), mmS_cell (by decide), mmS_slot, if_neg (by decide), mmS_slot, if_neg (by decide), mmS_slot, if_pos rfl]
    · rw [mmS_cell (by decide), mmS_cell (by decide), mmS_slot, if_neg (by decide), mmS_slot, if_pos rfl]
    · rw [mmS_cell (by decide), mmS_cell (by decide), mmS_slot, if_pos rfl]
    · rw [mmS_cell (by decide), mmS_slot, if_pos rfl]
    · rw [mmS_slot, if_pos rfl]
theorem St_open (hv : v = 5 ∨ v = 46) (hu : u = 5 ∨ u = 46) (hC : Cy u g h) (ho : opnd v g g1) : St v 0 (mmS g1 1 1 0) := by
  have tp := hC.1.2.2.1
  have ow := hC.1.2.2.2.2.2.2
  obtain ⟨o0, ⟨o1, o2, o3, o4, o5, o6⟩, ⟨p0, p1, p2, p3, p4, p5, p6, p7⟩, o7⟩ := ho
  have f : ∀ k i, ¬ ((k = 3 ∧ i ≠ 5 ∧ i ≠ 7 ∧ i ≠ 8) ∨ (k = v ∧ i ≤ 5) ∨ (v + 23 ≤ k ∧ k ≤ v + 32) ∨ (k = v + 33 ∧ i ≤ 1)) → g1 k i = g k i := o0
  have z : ∀ k i, k ≠ 1 → mmS g1 1 1 0 k i = g1 k i := fun k i q => mmS_cell q
  refine ⟨⟨?_, ⟨?_, ?_, ?_⟩, fun i j1 j2 => ?_, ?_, fun k k1 k2 => ?_⟩, ?_, ?_, ?_, ?_, ?_⟩
  · rw [z 3 2 (by omega)]; exact o1
  · rw [z 3 4 (by omega), o3]; omega
  · rw [z 3 4 (by omega), z 3 3 (by omega), o3, o2]; exact tp.1.2.1
  · rw [z 3 3 (by omega), o2]; exact tp.1.2.2
  · rw [z 2 i (by omega), f 2 i (by omega)]; exact (tp.2 i j1 j2).2
  · rw [z _ _ (by omega)]; omega
  · rw [z 45 k (by omega), f 45 k (by omega)]; exact ow k k1 k2
  · rw [z _ _ (by omega), p0]; omega
  · rw [z _ _ (by omega), p1]; omega
  · rw [z _ _ (by omega), p3]; omega
  · rw [z _ _ (by omega), p2]; omega
  · rw [z _ _ (by omega)]; omega
theorem SO_open (hv : v = 5 ∨ v = 46) (hu : u = 5 ∨ u = 46) (hC : Cy u g h) (ho : opnd v g g1) (hM : opM h h') : SO False v (h 0 0) (h 0 1) 0 (mmS h 282 1 0) (mmS g1 1 1 0) h' := by
  have S := (St_open hv hu hC ho).1
  have tp := hC.1.2.2.1
  obtain ⟨o0, ⟨o1, o2, o3, o4, o5, o6⟩, ⟨p0, p1, p2, p3, p4, p5, p6, p7⟩, o7⟩ := ho
  have f : ∀ k i, ¬ ((k = 3 ∧ i ≠ 5 ∧ i ≠ 7 ∧ i ≠ 8) ∨ (k = v ∧ i ≤ 5) ∨ (v + 23 ≤ k ∧ k ≤ v + 32) ∨ (k = v + 33 ∧ i ≤ 1)) → g1 k i = g k i := o0
  have z : ∀ k, k ≠ 1 → mmS g1 1 1 0 k = g1 k := fun k q => mmS_row q
  obtain ⟨m0, ⟨m3, m2, m4, m5, m6, m48, m50, m18, m19⟩, m13⟩ := hM
  have fm : ∀ k i, ¬ ScM k i → h' k i = mmS h 282 1 0 k i := m0
  have x3 := z 3 (by omega)
  have xv := z v (by omega)
  have xw := z (v + 33) (by omega)
  refine ⟨⟨S, ?_, ?_, ?_, fun i i1 i2 => ?_, fun _ => ⟨?_, ?_, fun q => q.elim⟩⟩, fun _ => ⟨⟨⟨⟨?_, ?_, ?_, ?_, ?_⟩, ?_, ?_, ?_, ?_, ?_⟩, fun l l1 l2 => ?_, fun p q1 q2 => ?_, ⟨fun a b a1 a2 b1 b2 => ?_, fun a b a1 a2 b1 b2 _ => ?_⟩, ⟨fun k k1 k2 => ?_, fun k k1 k2 => ?_, fun k k1 k2 => ?_⟩, ⟨fun k k1 k2 => ?_, ?_, fun j j1 j2 => ?_⟩⟩, ?_⟩, ⟨⟨?_, ?_⟩, ⟨?_, ?_⟩, ⟨?_, ?_⟩, fun k k1 k2 => ?_, fun k k1 k2 => ?_, fun k k1 k2 => ?_⟩, ⟨⟨?_, ?_⟩, m0⟩, m48, by omega, ?_⟩
  · rw [x3, o5]; exact m5
  · rw [x3, o6]; exact m6
  · rw [x3, o2, m3]; exact tp.1.1
  · rw [fm 283 i (by unfold ScM; omega), mmS_cell (by decide), z 2 (by omega), f 2 i (by omega)]; exact (tp.2 i i1 i2).1
  · rw [x3, o3]; exact m2
  · rw [x3, o4]; exact m4
  · rw [m13 0 (by omega) (by omega), xv, p0]
  · rw [m13 1 (by omega) (by omega), xv, p1]
  · rw [m13 2 (by omega) (by omega), xv, p3]
  · rw [m13 3 (by omega) (by omega), xv, p2]
  · rw [m13 4 (by omega) (by omega), xw, p6]
  · rw [xv, xw, p0, p1, p2, p3, p6]; omega
  · rw [xv, p4]; omega
  · rw [xv, p5]; omega
  · rw [xv, p5]; exact m19
  · rw [xv, p4]; exact m18
  · rw [xv, p1] at l2; omega
  · rw [xv, p3] at q2; omega
  · rw [xv, p1] at a2; omega
  · rw [z _ (by omega)]; exact o7 a b a1 a2 b1 b2
  · rw [xv, p0] at k2; omega
  · rw [xv, p1] at k2; omega
  · rw [xv, p3] at k2; omega
  · rw [xw, p6] at k2; omega
  · rw [xw, p7]; exact m50
  · rw [xw, p7] at j2; omega
  · rw [xw, p7, x3, o3]; omega
  · rw [m13 0 (by omega) (by omega), xv, p0]
  · rw [xv, p0]; omega
  · rw [m13 1 (by omega) (by omega), xv, p1]
  · rw [xv, p1]; omega
  · rw [m13 2 (by omega) (by omega), xv, p3]
  · rw [xv, p3]; omega
  · rw [xv, p0] at k2; omega
  · rw [xv, p1] at k2; omega
  · rw [xv, p3] at k2; omega
  · rw [fm 0 0 (by unfold ScM; omega), mmS_cell (by decide)]
  · rw [fm 0 1 (by unfold ScM; omega), mmS_cell (by decide)]
  · rw [m13 3 (by omega) (by omega), m13 4 (by omega) (by omega)]; omega
end TO
