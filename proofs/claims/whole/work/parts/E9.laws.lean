/-! ===== mm: a law more in the stage ===== -/
section TW
variable {d : Nat} {P P' : Prop} {v n0 z0 k : Int} {m g g' h h' : mmH} {Q : Int → mmH → Prop}
theorem Tz_law {G : mmH} {n o t0 t1 t2 bar : Int} (hv : v = 5 ∨ v = 46) (hT : Tz v g h) (en : g (v + 33) 0 = n) (hn : n < 8) (e0 : g (v + 33) 1 = t0) (e2 : G (v + 33) 1 = t2) (en2 : G (v + 33) 0 = n) (z0' : 0 ≤ t0) (z1 : t0 ≤ t1) (z2 : t1 ≤ t2)
    (hG : ∀ j, v ≤ j → j ≤ v + 38 → j ≠ v + 33 → j ≠ v + 38 → G j = g j) (hk : ∀ j, j < t0 → G (v + 38) j = g (v + 38) j) (hb : (bar = 0 ∧ chkR (G (v + 38)) (t1 - t0).toNat t0 [] = some [false]) ∨ (bar = 1 ∧ t0 = t1)) (hc : chkR (G (v + 38)) (t2 - t1).toNat t1 [] = some [true])
    (hA : ∀ j, 313 ≤ j → j ≤ 319 → j ≠ 313 → h' j = h j) (h3 : ∀ i, h' 313 i = if i = 4 then n + 1 else h 313 i) (hr : ∀ i, h' 320 i = if i = n then o else h 320 i) (hs : ∀ i, h' 321 i = if i = n then bar else h 321 i) (h4 : ∀ i, h' 324 i = if i = n then t0 else h 324 i) (h5 : ∀ i, h' 325 i = if i = n then t1 else h 325 i) (h6 : ∀ i, h' 326 i = if i = n then t2 else h 326 i)
    (h50 : h' 282 50 = t2) (hco : ∀ j, 0 ≤ j → j < t2 → h' 322 j = codeOf (G (v + 38) j)) : Tz v (adW v o t0 t1 G) h' := by
  obtain ⟨⟨⟨a0, a1, a2, a3, a4⟩, ⟨b0, b1, b2, b3, b4⟩, c1, c2, c3, c4⟩, t_2, t_3, t_4, t_5, ⟨t61, t62, t63⟩⟩ := hT
  unfold adW
  rw [en2, if_pos hn, e2]
  have R : ∀ j, j ≠ v + 33 → j ≠ v + 34 → j ≠ v + 35 → j ≠ v + 36 → j ≠ v + 37 → mmS (mmS (mmS (mmS (mmS G (v + 34) n o) (v + 35) n t0) (v + 36) n t1) (v + 37) n t2) (v + 33) 0 (n + 1) j = G j := fun j q1 q2 q3 q4 q5 => by rw [mmS_row q1, mmS_row q5, mmS_row q4, mmS_row q3, mmS_row q2]
  have C33 : ∀ i, mmS (mmS (mmS (mmS (mmS G (v + 34) n o) (v + 35) n t0) (v + 36) n t1) (v + 37) n t2) (v + 33) 0 (n + 1) (v + 33) i = if i = 0 then n + 1 else G (v + 33) i := fun i => by rw [mmS_slot, mmS_cell (by omega), mmS_cell (by omega), mmS_cell (by omega), mmS_cell (by omega)]
  have C34 : ∀ i, mmS (mmS (mmS (mmS (mmS G (v + 34) n o) (v + 35) n t0) (v + 36) n t1) (v + 37) n t2) (v + 33) 0 (n + 1) (v + 34) i = if i = n then o else G (v + 34) i := fun i => by rw [mmS_cell (by omega), mmS_cell (by omega), mmS_cell (by omega), mmS_cell (by omega), mmS_slot]
  have C35 : ∀ i, mmS (mmS (mmS (mmS (mmS G (v + 34) n o) (v + 35) n t0) (v + 36) n t1) (v + 37) n t2) (v + 33) 0 (n + 1) (v + 35) i = if i = n then t0 else G (v + 35) i := fun i => by rw [mmS_cell (by omega), mmS_cell (by omega), mmS_cell (by omega), mmS_slot, mmS_cell (by omega)]
  have C36 : ∀ i, mmS (mmS (mmS (mmS (mmS G (v + 34) n o) (v + 35) n t0) (v + 36) n t1) (v + 37) n t2) (v + 33) 0 (n + 1) (v + 36) i = if i = n then t1 else G (v + 36) i := fun i => by rw [mmS_cell (by omega), mmS_cell (by omega), mmS_slot, mmS_cell (by omega), mmS_cell (by omega)]
  have C37 : ∀ i, mmS (mmS (mmS (mmS (mmS G (v + 34) n o) (v + 35) n t0) (v + 36) n t1) (v + 37) n t2) (v + 33) 0 (n + 1) (v + 37) i = if i = n then t2 else G (v + 37) i := fun i => by rw [mmS_cell (by omega), mmS_slot, mmS_cell (by omega), mmS_cell (by omega), mmS_cell (by omega)]
  generalize mmS (mmS (mmS (mmS (mmS G (v + 34) n o) (v + 35) n t0) (v + 36) n t1) (v + 37) n t2) (v + 33) 0 (n + 1) = M at R C33 C34 C35 C36 C37
  have RR : ∀ j, v ≤ j → j ≤ v + 32 → M j = g j := fun j j1 j2 => by rw [R j (by omega) (by omega) (by omega) (by omega) (by omega), hG j j1 (by omega) (by omega) (by omega)]
  have r0 := RR v (by omega) (by omega)
  have r38 := R (v + 38) (by omega) (by omega) (by omega) (by omega) (by omega)
  have H3 : ∀ i, i ≠ 4 → h' 313 i = h 313 i := fun i q => by rw [h3, if_neg q]
  have m0 : M (v + 33) 0 = n + 1 := by rw [C33, if_pos rfl]
  have m1 : M (v + 33) 1 = t2 := by rw [C33, if_neg (by omega), e2]
  rw [en] at t61
  have nn : 0 ≤ n := by omega
  refine ⟨⟨⟨by rw [H3 0 (by omega), r0]; exact a0, by rw [H3 1 (by omega), r0]; exact a1, by rw [H3 2 (by omega), r0]; exact a2, by rw [H3 3 (by omega), r0]; exact a3, by rw [h3, if_pos rfl, m0]⟩, ⟨by rw [r0]; exact b0, by rw [r0]; exact b1, by rw [r0]; exact b2, by rw [r0]; exact b3, by rw [m0]; omega⟩, by rw [r0]; exact c1, by rw [r0]; exact c2, by rw [r0, hA 319 (by omega) (by omega) (by omega)]; exact c3, by rw [r0, hA 318 (by omega) (by omega) (by omega)]; exact c4⟩, ?_, ?_, ⟨?_, ?_⟩, ?_, ⟨?_, ?_, ?_⟩⟩
  · intro l l1 l2
    rw [r0] at l2 ⊢
    rw [RR (v + 5 + l) (by omega) (by omega), hA 315 (by omega) (by omega) (by omega)]
    exact t_2 l l1 l2
  · intro p p1 p2
    rw [r0] at p2 ⊢
    rw [RR (v + 16 + p) (by omega) (by omega), hA 317 (by omega) (by omega) (by omega)]
    exact t_3 p p1 p2
  · intro a b p1 p2 q1 q2
    rw [r0] at p2 q2
    rw [RR (v + 23 + a) (by omega) (by omega), hA 316 (by omega) (by omega) (by omega)]
    exact t_4.1 a b p1 p2 q1 q2
  · intro a b p1 p2 q1 q2 c
    rw [r0] at c
    rw [RR (v + 23 + a) (by omega) (by omega)]
    exact t_4.2 a b p1 p2 q1 q2 c
  · unfold zName
    rw [r0, RR (v + 1) (by omega) (by omega), RR (v + 2) (by omega) (by omega), RR (v + 3) (by omega) (by omega), hA 314 (by omega) (by omega) (by omega)]
    exact t_5
  · intro i i1 i2
    rw [m0] at i2
    rw [C34, C35, C36, C37, m1, r38, hr, hs, h4, h5, h6]
    by_cases z : i = n
    · rw [if_pos z, if_pos z, if_pos z, if_pos z, if_pos z, if_pos z, if_pos z, if_pos z, if_pos z]
      refine ⟨rfl, by omega, ?_, rfl, rfl, rfl, by omega, hc, ?_⟩
      · rcases hb with ⟨q1, q2⟩ | ⟨q1, q2⟩
        · refine ⟨fun q => by omega, fun q => ?_⟩
          rw [q, show (t1 - t1).toNat = 0 by omega] at q2
          exact absurd (Option.some.inj q2) (by simp)
        · exact ⟨fun _ => q2, fun _ => q1⟩
      · rcases hb with ⟨q1, q2⟩ | ⟨q1, q2⟩
        · exact Or.inr q2
        · exact Or.inl q2
    · rw [if_neg z, if_neg z, if_neg z, if_neg z, if_neg z, if_neg z, if_neg z, if_neg z, if_neg z, hG (v + 34) (by omega) (by omega) (by omega) (by omega), hG (v + 35) (by omega) (by omega) (by omega) (by omega), hG (v + 36) (by omega) (by omega) (by omega) (by omega), hG (v + 37) (by omega) (by omega) (by omega) (by omega)]
      obtain ⟨q1, q2, q3, q4, q5, q6, q7, q8, q9⟩ := t61 i i1 (by omega)
      rw [e0] at q7
      refine ⟨q1, q2, q3, q4, q5, q6, by omega, ?_, ?_⟩
      · rw [← q8]
        exact chkR_congr _ _ _ (fun j j1 j2 => hk j (by omega))
      · rcases q9 with q9 | q9
        · exact Or.inl q9
        · refine Or.inr ?_
          rw [← q9]
          exact chkR_congr _ _ _ (fun j j1 j2 => hk j (by omega))
  · rw [h50, m1]
  · intro j j1 j2
    rw [m1] at j2
    rw [r38]
    exact hco j j1 j2
end TW
