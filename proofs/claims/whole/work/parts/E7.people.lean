/-! ===== mm: persons told; numbers told ===== -/
section TP
variable {d : Nat} {P P' : Prop} {v n0 z0 k : Int} {m g g' h h' : mmH} {Q : Int → mmH → Prop}
/-- a cell of a person not yet told -/
theorem SO_16 {r i x : Int} (hv : v = 5 ∨ v = 46) (hr : 0 ≤ r ∧ r < 6) (hO : SO P v n0 z0 k m g h) (h3 : g 3 0 = 0 → g v 3 ≤ r) : SO P v n0 z0 k m (mmS g (v + 16 + r) i x) h := by
  obtain ⟨⟨o1, o2⟩, o3, o4, o5, o7, o8, o9⟩ := hO
  have R : ∀ j, j ≠ v + 16 + r → mmS g (v + 16 + r) i x j = g j := fun j q => mmS_row q
  generalize mmS g (v + 16 + r) i x = G at R
  have e3 := R 3 (by omega)
  have e0 := R v (by omega)
  refine ⟨⟨?_, ?_⟩, fun ok => ?_, ?_, o5, o7, o8, o9⟩
  · unfold Sc
    rw [e3, R 2 (by omega), R 45 (by omega), R (v + 33) (by omega)]
    exact o1
  · unfold RS
    rw [e3, R 2 (by omega)]
    exact o2
  · rw [e3] at ok ⊢
    have h3 := h3 ok
    obtain ⟨⟨t1, t2, t3, t4, t5, t6⟩, tk⟩ := o3 ok
    refine ⟨⟨?_, ?_, ?_, ?_, ?_, ?_⟩, by rw [R (v + 33) (by omega)]; exact tk⟩
    · unfold zNum
      rw [e0, R (v + 33) (by omega)]
      exact t1
    · intro l l1 l2
      rw [e0] at l2 ⊢
      have := t1.2.1.2.1
      rw [R (v + 5 + l) (by omega)]
      exact t2 l l1 l2
    · intro p p1 p2
      rw [e0] at p2 ⊢
      rw [R (v + 16 + p) (by omega)]
      exact t3 p p1 p2
    · refine ⟨fun a b p1 p2 q1 q2 => ?_, fun a b p1 p2 q1 q2 c => ?_⟩
      · rw [e0] at p2 q2
        rw [R (v + 23 + a) (by omega)]
        exact t4.1 a b p1 p2 q1 q2
      · rw [e0] at c
        rw [R (v + 23 + a) (by omega)]
        exact t4.2 a b p1 p2 q1 q2 c
    · unfold zName
      rw [e0, R (v + 1) (by omega), R (v + 2) (by omega), R (v + 3) (by omega)]
      exact t5
    · unfold zLaw
      rw [R (v + 33) (by omega), R (v + 34) (by omega), R (v + 35) (by omega), R (v + 36) (by omega), R (v + 37) (by omega), R (v + 38) (by omega)]
      exact t6
  · unfold Nc
    rw [e0, R (v + 1) (by omega), R (v + 2) (by omega), R (v + 3) (by omega)]
    exact o4
theorem Tz_per {n x y : Int} {c : Int → Int} (hv : v = 5 ∨ v = 46) (hT : Tz v g h) (en : g v 3 = n) (hn : n < 6) (hx : nmR x y) (hc : ∀ i, 0 ≤ i → i < 6 → g (v + 16 + n) i = c i)
    (hb : (1 ≤ c 0 ∧ c 0 ≤ 99) ∧ (0 ≤ c 1 ∧ c 1 ≤ 9) ∧ (0 ≤ c 2 ∧ c 2 ≤ 20) ∧ (0 ≤ c 3 ∧ c 3 ≤ 9) ∧ (0 ≤ c 4 ∧ c 4 < g v 1) ∧ (0 ≤ c 5 ∧ c 5 < g v 1) ∧ c 4 ≠ c 5)
    (hA : ∀ j, j ≠ 313 → j ≠ 314 → j ≠ 317 → h' j = h j) (h3 : ∀ i, h' 313 i = if i = 2 then n + 1 else h 313 i) (h4 : ∀ i, h' 314 i = if i = 20 + n then y else h 314 i)
    (h7 : ∀ i, h' 317 i = if 6 * n ≤ i ∧ i < 6 * n + 6 then c (i - 6 * n) else h 317 i) : Tz v (adP v x g) h' := by
  obtain ⟨⟨⟨a0, a1, a2, a3, a4⟩, ⟨b0, b1, b2, b3, b4⟩, c1, c2, c3, c4⟩, t2, t3, t4, ⟨t51, t52, t53⟩, t6⟩ := hT
  unfold adP
  rw [en, if_pos hn]
  have R : ∀ j, j ≠ v → j ≠ v + 3 → mmS (mmS g (v + 3) n x) v 3 (n + 1) j = g j := fun j q1 q2 => by rw [mmS_row q1, mmS_row q2]
  have C : ∀ i, mmS (mmS g (v + 3) n x) v 3 (n + 1) v i = if i = 3 then n + 1 else g v i := fun i => by rw [mmS_slot, mmS_cell (by omega)]
  have CN : ∀ i, mmS (mmS g (v + 3) n x) v 3 (n + 1) (v + 3) i = if i = n then x else g (v + 3) i := fun i => by rw [mmS_cell (by omega), mmS_slot]
  generalize mmS (mmS g (v + 3) n x) v 3 (n + 1) = G at R C CN
  have r33 := R (v + 33) (by omega) (by omega)
  have C0 : ∀ i, i ≠ 3 → G v i = g v i := fun i q => by rw [C, if_neg q]
  have C3 : G v 3 = n + 1 := by rw [C, if_pos rfl]
  have H3 : ∀ i, i ≠ 2 → h' 313 i = h 313 i := fun i q => by rw [h3, if_neg q]
  have s9 := hA 319 (by omega) (by omega) (by omega)
  have s8 := hA 318 (by omega) (by omega) (by omega)
  refine ⟨⟨⟨by rw [H3 0 (by omega), C0 0 (by omega)]; exact a0, by rw [H3 1 (by omega), C0 1 (by omega)]; exact a1, by rw [h3, if_pos rfl, C3], by rw [H3 3 (by omega), C0 2 (by omega)]; exact a3, by rw [H3 4 (by omega), r33]; exact a4⟩, ⟨by rw [C0 0 (by omega)]; exact b0, by rw [C0 1 (by omega)]; exact b1, by rw [C3]; omega, by rw [C0 2 (by omega)]; exact b3, by rw [r33]; exact b4⟩, by rw [C0 4 (by omega)]; exact c1, by rw [C0 5 (by omega)]; exact c2, by rw [s9, C0 5 (by omega)]; exact c3, by rw [s8, C0 4 (by omega)]; exact c4⟩, ?_, ?_, ⟨?_, ?_⟩, ⟨?_, ?_, ?_⟩, ?_⟩
  · intro l l1 l2
    rw [C0 1 (by omega)] at l2
    rw [C0 0 (by omega), R (v + 5 + l) (by omega) (by omega), hA 315 (by omega) (by omega) (by omega)]
    exact t2 l l1 l2
  · intro p p1 p2
    rw [C3] at p2
    rw [C0 1 (by omega), R (v + 16 + p) (by omega) (by omega)]
    by_cases z : p = n
    · subst z
      refine ⟨fun i i1 i2 => ?_, ?_⟩
      · rw [h7, if_pos (by omega), hc i i1 i2]
        congr 1
        omega
      · rw [hc 0 (by omega) (by omega), hc 1 (by omega) (by omega), hc 2 (by omega) (by omega), hc 3 (by omega) (by omega), hc 4 (by omega) (by omega), hc 5 (by omega) (by omega)]
        exact hb
    · have t := t3 p p1 (by omega)
      exact ⟨fun i i1 i2 => by rw [h7, if_neg (by omega)]; exact t.1 i i1 i2, t.2⟩
  · intro a b p1 p2 q1 q2
    rw [C0 1 (by omega)] at p2 q2
    rw [R (v + 23 + a) (by omega) (by omega), hA 316 (by omega) (by omega) (by omega)]
    exact t4.1 a b p1 p2 q1 q2
  · intro a b p1 p2 q1 q2 c
    rw [C0 1 (by omega)] at c
    rw [R (v + 23 + a) (by omega) (by omega)]
    exact t4.2 a b p1 p2 q1 q2 c
  · intro i i1 i2
    rw [C0 0 (by omega)] at i2
    rw [R (v + 1) (by omega) (by omega), h4, if_neg (by omega)]
    exact t51 i i1 i2
  · intro i i1 i2
    rw [C0 1 (by omega)] at i2
    rw [R (v + 2) (by omega) (by omega), h4, if_neg (by omega)]
    exact t52 i i1 i2
  · intro i i1 i2
    rw [C3] at i2
    rw [CN, h4]
    by_cases z : i = n
    · rw [if_pos z, if_pos (by omega)]; exact hx
    · rw [if_neg z, if_neg (by omega)]; exact t53 i i1 (by omega)
  · unfold zLaw
    rw [r33, R (v + 34) (by omega) (by omega), R (v + 35) (by omega) (by omega), R (v + 36) (by omega) (by omega), R (v + 37) (by omega) (by omega), R (v + 38) (by omega) (by omega), hA 320 (by omega) (by omega) (by omega), hA 321 (by omega) (by omega) (by omega), hA 322 (by omega) (by omega) (by omega), hA 324 (by omega) (by omega) (by omega), hA 325 (by omega) (by omega) (by omega), hA 326 (by omega) (by omega) (by omega), hA 282 (by omega) (by omega) (by omega)]
    exact t6
/-- NIGHT's and LEVY's numbers -/
theorem SO_num {i x y : Int} {r : Int} (hv : v = 5 ∨ v = 46) (hO : SO P v n0 z0 k m g h) (hi : (i = 4 ∧ r = 318) ∨ (i = 5 ∧ r = 319)) (hx : g 3 0 = 0 → y = x ∧ ((i = 4 ∧ 1 ≤ x ∧ x ≤ 20) ∨ (i = 5 ∧ 0 ≤ x ∧ x ≤ 100))) : SO P v n0 z0 k m (mmS g v i x) (mmS h r 0 y) := by
  obtain ⟨⟨o1, o2⟩, o3, o4, ⟨o5, o6⟩, o7, o8, o9⟩ := hO
  have R : ∀ j, j ≠ v → mmS g v i x j = g j := fun j q => mmS_row q
  have C : ∀ j, mmS g v i x v j = if j = i then x else g v j := fun j => mmS_slot ..
  have H : ∀ j, j ≠ r → mmS h r 0 y j = h j := fun j q => mmS_row q
  have H0 : mmS h r 0 y r 0 = y := by rw [mmS_slot, if_pos rfl]
  have HF : Fr ScM h (mmS h r 0 y) := Fr.rf.put (ScM_r _ _ (by omega))
  generalize mmS g v i x = G at R C
  generalize mmS h r 0 y = M at H H0 HF
  have C0 : ∀ j, j ≠ i → G v j = g v j := fun j q => by rw [C, if_neg q]
  have e3 := R 3 (by omega)
  have m282 := H 282 (by omega)
  have m313 := H 313 (by omega)
  refine ⟨⟨?_, ?_⟩, fun ok => ?_, ?_, ⟨?_, o6.tr HF⟩, ?_, ?_, ?_⟩
  · unfold Sc
    rw [e3, R 2 (by omega), R 45 (by omega), R (v + 33) (by omega)]
    exact o1
  · unfold RS
    rw [e3, R 2 (by omega), m282, H 283 (by omega)]
    exact o2
  · rw [e3] at ok ⊢
    obtain ⟨ey, hx⟩ := hx ok
    obtain ⟨⟨⟨z1, z2, z3, z4, z5, z6⟩, t2, t3, t4, t5, t6⟩, tk⟩ := o3 ok
    refine ⟨⟨⟨?_, ?_, ?_, ?_, ?_, ?_⟩, ?_, ?_, ?_, ?_, ?_⟩, by rw [R (v + 33) (by omega)]; exact tk⟩
    · rw [m313, C0 0 (by omega), C0 1 (by omega), C0 2 (by omega), C0 3 (by omega), R (v + 33) (by omega)]; exact z1
    · rw [C0 0 (by omega), C0 1 (by omega), C0 2 (by omega), C0 3 (by omega), R (v + 33) (by omega)]; exact z2
    · rw [C]; split <;> omega
    · rw [C]; split <;> omega
    · rcases hi with ⟨i1, i2⟩ | ⟨i1, i2⟩
      · rw [H 319 (by omega), C0 5 (by omega)]; exact z5
      · subst i1 i2; rw [H0, C, if_pos rfl, ey]
    · rcases hi with ⟨i1, i2⟩ | ⟨i1, i2⟩
      · subst i1 i2; rw [H0, C, if_pos rfl, ey]
      · rw [H 318 (by omega), C0 4 (by omega)]; exact z6
    · intro l l1 l2
      rw [C0 1 (by omega)] at l2
      rw [C0 0 (by omega), R (v + 5 + l) (by omega), H 315 (by omega)]
      exact t2 l l1 l2
    · intro p p1 p2
      rw [C0 3 (by omega)] at p2
      rw [C0 1 (by omega), R (v + 16 + p) (by omega), H 317 (by omega)]
      exact t3 p p1 p2
    · refine ⟨fun a b p1 p2 q1 q2 => ?_, fun a b p1 p2 q1 q2 c => ?_⟩
      · rw [C0 1 (by omega)] at p2 q2
        rw [R (v + 23 + a) (by omega), H 316 (by omega)]
        exact t4.1 a b p1 p2 q1 q2
      · rw [C0 1 (by omega)] at c
        rw [R (v + 23 + a) (by omega)]
        exact t4.2 a b p1 p2 q1 q2 c
    · unfold zName
      rw [C0 0 (by omega), C0 1 (by omega), C0 3 (by omega), R (v + 1) (by omega), R (v + 2) (by omega), R (v + 3) (by omega), H 314 (by omega)]
      exact t5
    · unfold zLaw
      rw [R (v + 33) (by omega), R (v + 34) (by omega), R (v + 35) (by omega), R (v + 36) (by omega), R (v + 37) (by omega), R (v + 38) (by omega), H 320 (by omega), H 321 (by omega), H 322 (by omega), H 324 (by omega), H 325 (by omega), H 326 (by omega), m282]
      exact t6
  · unfold Nc
    rw [C0 0 (by omega), C0 1 (by omega), C0 3 (by omega), R (v + 1) (by omega), R (v + 2) (by omega), R (v + 3) (by omega), m313, H 314 (by omega)]
    exact o4
  · rw [H 0 (by omega)]; exact o5
  · rw [m282]; exact o7
  · rw [m282]; exact o8
  · rw [m313]; exact o9
end TP
