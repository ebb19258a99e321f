/-! ===== mm: lots told ===== -/
section TL
variable {d : Nat} {P P' : Prop} {v n0 z0 k : Int} {m g g' h h' : mmH} {Q : Int → mmH → Prop}
theorem Tz_lot {n x y o e t : Int} (hv : v = 5 ∨ v = 46) (hT : Tz v g h) (en : g v 1 = n) (hn : n < 10) (hx : nmR x y) (ho : 0 ≤ o ∧ o < g v 0) (he : 0 ≤ e ∧ e ≤ 20) (ht : 0 ≤ t ∧ t ≤ 30)
    (hA : ∀ j, j ≠ 313 → j ≠ 314 → j ≠ 315 → j ≠ 316 → h' j = h j) (h3 : ∀ i, h' 313 i = if i = 1 then n + 1 else h 313 i) (h4 : ∀ i, h' 314 i = if i = 10 + n then y else h 314 i)
    (h5 : ∀ i, h' 315 i = if i = 5 * n then o else if i = 5 * n + 1 then e else if i = 5 * n + 2 then t else if i = 5 * n + 3 ∨ i = 5 * n + 4 then 0 else h 315 i)
    (h6 : ∀ a c, 0 ≤ a → a < 10 → 0 ≤ c → c < 10 → h' 316 (10 * a + c) = if a = n ∨ c = n then 0 else h 316 (10 * a + c)) : Tz v (adL v x o e t g) h' := by
  obtain ⟨⟨⟨a0, a1, a2, a3, a4⟩, ⟨b0, b1, b2, b3, b4⟩, c1, c2, c3, c4⟩, t2, t3, t4, ⟨t51, t52, t53⟩, t6⟩ := hT
  unfold adL
  rw [en, if_pos hn]
  have R : ∀ j, j ≠ v → j ≠ v + 2 → j ≠ v + 5 + n → mmS (mmS (mmS (mmS (mmS (mmS (mmS g (v + 2) n x) (v + 5 + n) 0 o) (v + 5 + n) 1 e) (v + 5 + n) 2 t) (v + 5 + n) 3 0) (v + 5 + n) 4 0) v 1 (n + 1) j = g j := fun j q1 q2 q3 => by rw [mmS_row q1, mmS_row q3, mmS_row q3, mmS_row q3, mmS_row q3, mmS_row q3, mmS_row q2]
  have C : ∀ i, mmS (mmS (mmS (mmS (mmS (mmS (mmS g (v + 2) n x) (v + 5 + n) 0 o) (v + 5 + n) 1 e) (v + 5 + n) 2 t) (v + 5 + n) 3 0) (v + 5 + n) 4 0) v 1 (n + 1) v i = if i = 1 then n + 1 else g v i := fun i => by
    rw [mmS_slot, mmS_cell (by omega), mmS_cell (by omega), mmS_cell (by omega), mmS_cell (by omega), mmS_cell (by omega), mmS_cell (by omega)]
  have CN : ∀ i, mmS (mmS (mmS (mmS (mmS (mmS (mmS g (v + 2) n x) (v + 5 + n) 0 o) (v + 5 + n) 1 e) (v + 5 + n) 2 t) (v + 5 + n) 3 0) (v + 5 + n) 4 0) v 1 (n + 1) (v + 2) i = if i = n then x else g (v + 2) i := fun i => by
    rw [mmS_cell (by omega), mmS_cell (by omega), mmS_cell (by omega), mmS_cell (by omega), mmS_cell (by omega), mmS_cell (by omega), mmS_slot]
  have CL : ∀ i, mmS (mmS (mmS (mmS (mmS (mmS (mmS g (v + 2) n x) (v + 5 + n) 0 o) (v + 5 + n) 1 e) (v + 5 + n) 2 t) (v + 5 + n) 3 0) (v + 5 + n) 4 0) v 1 (n + 1) (v + 5 + n) i = if i = 4 then 0 else if i = 3 then 0 else if i = 2 then t else if i = 1 then e else if i = 0 then o else g (v + 5 + n) i := fun i => by
    rw [mmS_cell (by omega), mmS_slot, mmS_slot, mmS_slot, mmS_slot, mmS_slot, mmS_cell (by omega)]
  generalize mmS (mmS (mmS (mmS (mmS (mmS (mmS g (v + 2) n x) (v + 5 + n) 0 o) (v + 5 + n) 1 e) (v + 5 + n) 2 t) (v + 5 + n) 3 0) (v + 5 + n) 4 0) v 1 (n + 1) = G at R C CN CL
  have n0 : 0 ≤ n := by omega
  have r33 := R (v + 33) (by omega) (by omega) (by omega)
  have C0 : ∀ i, i ≠ 1 → G v i = g v i := fun i q => by rw [C, if_neg q]
  have C1 : G v 1 = n + 1 := by rw [C, if_pos rfl]
  have H3 : ∀ i, i ≠ 1 → h' 313 i = h 313 i := fun i q => by rw [h3, if_neg q]
  have s9 := hA 319 (by omega) (by omega) (by omega) (by omega)
  have s8 := hA 318 (by omega) (by omega) (by omega) (by omega)
  refine ⟨⟨⟨by rw [H3 0 (by omega), C0 0 (by omega)]; exact a0, by rw [h3, if_pos rfl, C1], by rw [H3 2 (by omega), C0 3 (by omega)]; exact a2, by rw [H3 3 (by omega), C0 2 (by omega)]; exact a3, by rw [H3 4 (by omega), r33]; exact a4⟩, ⟨by rw [C0 0 (by omega)]; exact b0, by rw [C1]; omega, by rw [C0 3 (by omega)]; exact b2, by rw [C0 2 (by omega)]; exact b3, by rw [r33]; exact b4⟩, by rw [C0 4 (by omega)]; exact c1, by rw [C0 5 (by omega)]; exact c2, by rw [s9, C0 5 (by omega)]; exact c3, by rw [s8, C0 4 (by omega)]; exact c4⟩, ?_, ?_, ⟨?_, ?_⟩, ⟨?_, ?_, ?_⟩, ?_⟩
  · intro l l1 l2
    rw [C1] at l2
    rw [C0 0 (by omega)]
    by_cases z : l = n
    · subst z
      rw [CL, CL, CL, CL, CL, h5, h5, h5, h5, h5]
      simp
      omega
    · rw [R (v + 5 + l) (by omega) (by omega) (by omega), h5, h5, h5, h5, h5]
      have t := t2 l l1 (by omega)
      refine ⟨?_, ?_, ?_, ?_, ?_⟩
      · rw [if_neg (by omega), if_neg (by omega), if_neg (by omega), if_neg (by omega)]; exact t.1
      · rw [if_neg (by omega), if_neg (by omega), if_neg (by omega), if_neg (by omega)]; exact t.2.1
      · rw [if_neg (by omega), if_neg (by omega), if_neg (by omega), if_neg (by omega)]; exact t.2.2.1
      · rw [if_neg (by omega), if_neg (by omega), if_neg (by omega), if_neg (by omega)]; exact t.2.2.2.1
      · rw [if_neg (by omega), if_neg (by omega), if_neg (by omega), if_neg (by omega)]; exact t.2.2.2.2
  · intro p p1 p2
    rw [C0 3 (by omega)] at p2
    rw [R (v + 16 + p) (by omega) (by omega) (by omega), hA 317 (by omega) (by omega) (by omega) (by omega), C1]
    have t := t3 p p1 p2
    exact ⟨t.1, t.2.1, t.2.2.1, t.2.2.2.1, t.2.2.2.2.1, ⟨t.2.2.2.2.2.1.1, by have := t.2.2.2.2.2.1.2; omega⟩, ⟨t.2.2.2.2.2.2.1.1, by have := t.2.2.2.2.2.2.1.2; omega⟩, t.2.2.2.2.2.2.2⟩
  · intro a b p1 p2 q1 q2
    rw [C1] at p2 q2
    rw [R (v + 23 + a) (by omega) (by omega) (by omega), h6 a b p1 (by omega) q1 (by omega)]
    by_cases z : a = n ∨ b = n
    · rw [if_pos z, t4.2 a b p1 (by omega) q1 (by omega) (by omega)]
      omega
    · rw [if_neg z]
      exact t4.1 a b p1 (by omega) q1 (by omega)
  · intro a b p1 p2 q1 q2 c
    rw [C1] at c
    rw [R (v + 23 + a) (by omega) (by omega) (by omega)]
    exact t4.2 a b p1 p2 q1 q2 (by omega)
  · intro i i1 i2
    rw [C0 0 (by omega)] at i2
    rw [R (v + 1) (by omega) (by omega) (by omega), h4, if_neg (by omega)]
    exact t51 i i1 i2
  · intro i i1 i2
    rw [C1] at i2
    rw [CN, h4]
    by_cases z : i = n
    · rw [if_pos z, if_pos (by omega)]; exact hx
    · rw [if_neg z, if_neg (by omega)]; exact t52 i i1 (by omega)
  · intro i i1 i2
    rw [C0 3 (by omega)] at i2
    rw [R (v + 3) (by omega) (by omega) (by omega), h4, if_neg (by omega)]
    exact t53 i i1 i2
  · unfold zLaw
    rw [r33, R (v + 34) (by omega) (by omega) (by omega), R (v + 35) (by omega) (by omega) (by omega), R (v + 36) (by omega) (by omega) (by omega), R (v + 37) (by omega) (by omega) (by omega), R (v + 38) (by omega) (by omega) (by omega), hA 320 (by omega) (by omega) (by omega) (by omega), hA 321 (by omega) (by omega) (by omega) (by omega), hA 322 (by omega) (by omega) (by omega) (by omega), hA 324 (by omega) (by omega) (by omega) (by omega), hA 325 (by omega) (by omega) (by omega) (by omega), hA 326 (by omega) (by omega) (by omega) (by omega), hA 282 (by omega) (by omega) (by omega) (by omega)]
    exact t6
/-- the new lot's gaps are cleared -/
theorem lot_clear {n v1 v3 v5 v6 v7 : Int} {h0 : mmH} (hn : 0 ≤ n ∧ n < 10) (hy : ∀ h2 : mmH, (∀ j, j ≠ 316 → h2 j = h0 j) → (∀ i, 100 ≤ i → h2 316 i = h0 316 i) → (∀ a c, 0 ≤ a → a < 10 → 0 ≤ c → c < 10 → h2 316 (10 * a + c) = if a = n ∨ c = n then 0 else h0 316 (10 * a + c)) → Q 0 (mmS h2 313 1 (mAdd (h2 313 1) 1))) : qB tFM d k_m_lotTold n0 z0 Q 3 [(3, 282), (1, v1), (1, n), (2, v3), (0, 0), (1, v5), (1, v6), (1, v7), (1, 0)] [] h0 := by
  have key : ∀ (M : Nat) (j : Int) (h1 : mmH), 0 ≤ j → j + M = 10 → (∀ j, j ≠ 316 → h1 j = h0 j) → (∀ i, 100 ≤ i → h1 316 i = h0 316 i) → (∀ a c, 0 ≤ a → a < 10 → 0 ≤ c → c < 10 → h1 316 (10 * a + c) = if (a = n ∧ c < j) ∨ (c = n ∧ a < j) then 0 else h0 316 (10 * a + c)) → qB tFM d k_m_lotTold n0 z0 Q 3 [(3, 282), (1, v1), (1, n), (2, v3), (0, 0), (1, v5), (1, v6), (1, v7), (1, j)] [] h1 := by
    intro M
    induction M with
    | zero =>
      intro j h1 j0 j1 f1 f2 f3
      refine T_m_lotTold_3 _ _ _ _ _ _ _ _ _ _ _ _ ⟨fun _ => hy h1 f1 f2 (fun a c a1 a2 c1 c2 => ?_), fun q => absurd (show 10 ≤ j by omega) q⟩
      rw [f3 a c a1 a2 c1 c2]
      by_cases z : a = n ∨ c = n
      · rw [if_pos z, if_pos (by omega)]
      · rw [if_neg z, if_neg (by omega)]
    | succ M ih =>
      intro j h1 j0 j1 f1 f2 f3
      refine T_m_lotTold_3 _ _ _ _ _ _ _ _ _ _ _ _ ⟨fun q => absurd q (by omega), fun _ => ?_⟩
      rw [mmD_iff, mMul_ok (by omega) (by omega), mAdd_ok (by omega) (by omega), mmD_iff, mMul_ok (by omega) (by omega), mAdd_ok (by omega) (by omega), mAdd_ok (by omega) (by omega)]
      refine ⟨by omega, by omega, ih (j + 1) _ (by omega) (by omega) (fun i q => by rw [mmS_row q, mmS_row q, f1 i q]) (fun i q => by rw [mmS_slot, if_neg (by omega), mmS_slot, if_neg (by omega), f2 i q]) (fun a c a1 a2 c1 c2 => ?_)⟩
      rw [mmS_slot, mmS_slot, f3 a c a1 a2 c1 c2]
      by_cases z1 : 10 * a + c = 10 * j + n
      · rw [if_pos z1, if_pos (by omega)]
      · rw [if_neg z1]
        by_cases z2 : 10 * a + c = 10 * n + j
        · rw [if_pos z2, if_pos (by omega)]
        · rw [if_neg z2]
          by_cases z3 : (a = n ∧ c < j) ∨ (c = n ∧ a < j)
          · rw [if_pos z3, if_pos (by omega)]
          · rw [if_neg z3, if_neg (by omega)]
  exact key 10 0 h0 (by omega) (by omega) (fun _ _ => rfl) (fun _ _ => rfl) (fun a c a1 a2 c1 c2 => by rw [if_neg (by omega)])
end TL
