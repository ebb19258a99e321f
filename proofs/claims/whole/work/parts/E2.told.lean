/-! ===== mm: statements told: owners, inns, storks ===== -/
section TS
variable {d : Nat} {P P' : Prop} {v n0 z0 k : Int} {m g g' h h' : mmH} {Q : Int → mmH → Prop}
theorem SO_w (hO : SO True v n0 z0 k m g h) : SO P v n0 z0 k m g h := ⟨⟨hO.1.1, RS_w hO.1.2⟩, hO.2⟩
theorem SO_put (hO : SO P v n0 z0 k m g h) (ok : g 3 0 = 0) (e3 : g' 3 = g 3) (e2 : g' 2 = g 2) (e45 : g' 45 = g 45) (e33 : g' (v + 33) 1 = g (v + 33) 1) (f2 : h' 282 = h 282) (f3 : h' 283 = h 283) (f0 : h' 0 = h 0) (hF : Fr ScM h h') (hT : Tz v g' h') : SO P v n0 z0 k m g' h' := by
  obtain ⟨⟨o1, o2⟩, o3, o4, ⟨o5, o6⟩, o7, o8, o9⟩ := hO
  have b := hT.1
  refine ⟨⟨?_, ?_⟩, fun _ => ⟨hT, by rw [e3, e33]; exact (o3 ok).2⟩, Tz_Nc hT, ⟨by rw [f0]; exact o5, o6.tr hF⟩, by rw [f2]; exact o7, by rw [f2]; exact o8, ?_⟩
  · unfold Sc
    rw [e3, e2, e45, e33]
    exact o1
  · unfold RS
    rw [e3, e2, f2, f3]
    exact o2
  · obtain ⟨⟨a0, a1, a2, a3, a4⟩, ⟨b0, b1, b2, b3, b4⟩, -⟩ := b
    rw [a3, a4]
    exact ⟨b3, b4⟩
theorem SO_cn (hO : SO P v n0 z0 k m g h) : h 313 0 = g v 0 ∧ h 313 1 = g v 1 ∧ h 313 2 = g v 3 := ⟨hO.2.2.1.1.1, hO.2.2.1.2.1.1, hO.2.2.1.2.2.1.1⟩
theorem ScM_r (k i : Int) (h : (k = 313 ∧ i < 5) ∨ (k = 314 ∧ i < 30) ∨ (k = 315 ∧ i < 50) ∨ (k = 316 ∧ i < 100) ∨ (k = 317 ∧ i < 36) ∨ ((k = 318 ∨ k = 319) ∧ i < 1) ∨ ((k = 320 ∨ k = 321 ∨ k = 324 ∨ k = 325 ∨ k = 326) ∧ i < 8)) : ScM k i := by unfold ScM; omega
theorem Tz_own {x y : Int} (hv : v = 5 ∨ v = 46) (hT : Tz v g h) (hc : g v 0 < 5) (hn : nmR x y) : Tz v (adO v x g) (mmS (mmS h 314 (h 313 0) y) 313 0 (h 313 0 + 1)) := by
  obtain ⟨⟨⟨a0, a1, a2, a3, a4⟩, ⟨b0, b1, b2, b3, b4⟩, c1, c2, c3, c4⟩, t2, t3, t4, ⟨t51, t52, t53⟩, t6⟩ := hT
  unfold adO
  rw [if_pos hc, a0]
  have R : ∀ j, j ≠ v → j ≠ v + 1 → mmS (mmS g (v + 1) (g v 0) x) v 0 (g v 0 + 1) j = g j := fun j q1 q2 => by rw [mmS_row q1, mmS_row q2]
  have C : ∀ i, i ≠ 0 → mmS (mmS g (v + 1) (g v 0) x) v 0 (g v 0 + 1) v i = g v i := fun i q => by rw [mmS_slot, if_neg q, mmS_cell (by omega)]
  have C0 : mmS (mmS g (v + 1) (g v 0) x) v 0 (g v 0 + 1) v 0 = g v 0 + 1 := by rw [mmS_slot, if_pos rfl]
  have C1 : ∀ i, mmS (mmS g (v + 1) (g v 0) x) v 0 (g v 0 + 1) (v + 1) i = if i = g v 0 then x else g (v + 1) i := fun i => by rw [mmS_cell (by omega), mmS_slot]
  have H : ∀ j, j ≠ 313 → j ≠ 314 → mmS (mmS h 314 (g v 0) y) 313 0 (g v 0 + 1) j = h j := fun j q1 q2 => by rw [mmS_row q1, mmS_row q2]
  have H3 : ∀ i, i ≠ 0 → mmS (mmS h 314 (g v 0) y) 313 0 (g v 0 + 1) 313 i = h 313 i := fun i q => by rw [mmS_slot, if_neg q, mmS_cell (by omega)]
  have H0 : mmS (mmS h 314 (g v 0) y) 313 0 (g v 0 + 1) 313 0 = g v 0 + 1 := by rw [mmS_slot, if_pos rfl]
  have H4 : ∀ i, mmS (mmS h 314 (g v 0) y) 313 0 (g v 0 + 1) 314 i = if i = g v 0 then y else h 314 i := fun i => by rw [mmS_cell (by omega), mmS_slot]
  generalize mmS (mmS g (v + 1) (g v 0) x) v 0 (g v 0 + 1) = G at R C C0 C1
  generalize mmS (mmS h 314 (g v 0) y) 313 0 (g v 0 + 1) = M at H H3 H0 H4
  refine ⟨⟨⟨by rw [H0, C0], by rw [H3 1 (by omega), C 1 (by omega)]; exact a1, by rw [H3 2 (by omega), C 3 (by omega)]; exact a2, by rw [H3 3 (by omega), C 2 (by omega)]; exact a3, by rw [H3 4 (by omega), R (v + 33) (by omega) (by omega)]; exact a4⟩, ⟨by rw [C0]; omega, by rw [C 1 (by omega)]; exact b1, by rw [C 3 (by omega)]; exact b2, by rw [C 2 (by omega)]; exact b3, by rw [R (v + 33) (by omega) (by omega)]; exact b4⟩, by rw [C 4 (by omega)]; exact c1, by rw [C 5 (by omega)]; exact c2, by rw [H 319 (by omega) (by omega), C 5 (by omega)]; exact c3, by rw [H 318 (by omega) (by omega), C 4 (by omega)]; exact c4⟩, ?_, ?_, ?_, ⟨?_, ?_, ?_⟩, ?_⟩
  · intro l l1 l2
    rw [C 1 (by omega)] at l2
    rw [C0, R (v + 5 + l) (by omega) (by omega), H 315 (by omega) (by omega)]
    have := t2 l l1 l2
    exact ⟨⟨this.1.1, this.1.2.1, by omega⟩, this.2⟩
  · intro l l1 l2
    rw [C 3 (by omega)] at l2
    rw [C 1 (by omega), R (v + 16 + l) (by omega) (by omega), H 317 (by omega) (by omega)]
    exact t3 l l1 l2
  · refine ⟨fun a b p1 p2 q1 q2 => ?_, fun a b p1 p2 q1 q2 c => ?_⟩
    · rw [C 1 (by omega)] at p2 q2
      rw [R (v + 23 + a) (by omega) (by omega), H 316 (by omega) (by omega)]
      exact t4.1 a b p1 p2 q1 q2
    · rw [C 1 (by omega)] at c
      rw [R (v + 23 + a) (by omega) (by omega)]
      exact t4.2 a b p1 p2 q1 q2 c
  · intro i i1 i2
    rw [C0] at i2
    rw [C1, H4]
    by_cases e : i = g v 0
    · rw [if_pos e, if_pos e]; exact hn
    · rw [if_neg e, if_neg e]; exact t51 i i1 (by omega)
  · intro i i1 i2
    rw [C 1 (by omega)] at i2
    rw [R (v + 2) (by omega) (by omega), H4, if_neg (by omega)]
    exact t52 i i1 i2
  · intro i i1 i2
    rw [C 3 (by omega)] at i2
    rw [R (v + 3) (by omega) (by omega), H4, if_neg (by omega)]
    exact t53 i i1 i2
  · unfold zLaw
    rw [R (v + 33) (by omega) (by omega), R (v + 34) (by omega) (by omega), R (v + 35) (by omega) (by omega), R (v + 36) (by omega) (by omega), R (v + 37) (by omega) (by omega), R (v + 38) (by omega) (by omega), H 320 (by omega) (by omega), H 321 (by omega) (by omega), H 322 (by omega) (by omega), H 324 (by omega) (by omega), H 325 (by omega) (by omega), H 326 (by omega) (by omega), H 282 (by omega) (by omega)]
    exact t6
theorem okE_ok (ok : g 3 0 = 0) : okE g g' = g' := by unfold okE; rw [if_neg (by omega)]
theorem okE_bad (bad : g 3 0 ≠ 0) : okE g g' = g := by unfold okE; rw [if_pos bad]
theorem r3_v (hv : v = 5 ∨ v = 46) (h3 : R3 g g') : g' v = g v := h3 v (by omega)
theorem q_own (hv : v = 5 ∨ v = 46) (ok : g 3 0 = 0) (hO : SO P v n0 z0 k m (psH g) h) (hy : ∀ h', SO False v n0 z0 k m (ownF v g) h' → Q 0 h') : qC tFM (d + 6) k_m_ownerTold [282, g 3 4] h Q := by
  have e0 : psH g v = g v := r3_v hv r3_ps
  have c0 := (SO_cn hO).1
  have bb := hO.2.2.1.1.2
  rw [e0] at c0 bb
  unfold ownF at hy
  refine qC_intro (T_m_ownerTold_0 _ _ _ _ _ _ (o_isFull (n := g v 0) (c := 5) hv ok hO (by omega) c0 (by omega) rfl (fun h1 okB O1 => ⟨fun _ => o_newName hv O1 (fun x h2 nx O2 => ?_), fun q => absurd rfl q⟩) (fun h1 bad O1 => ⟨fun q => absurd q (by omega), fun _ => hy h1 ?_⟩)))
  · by_cases okN : newN v (begH (g v 0) 5 g) 3 0 = 0
    · have h5 : h2 282 5 = 0 := by rw [SO_5 O2]; exact okN
      rw [okE_ok okN] at hy
      have eb : newN v (begH (g v 0) 5 g) v = g v := (r3_v hv r3_newN).trans (r3_v hv r3_beg)
      have c2 := (SO_cn O2).1
      rw [eb] at c2
      have lt : g v 0 < 5 := by
        unfold begH at okB
        by_cases q : g v 0 < 5
        · exact q
        · rw [if_neg q] at okB
          exact absurd (stk_back sk_ps okB) (fl_bad (by omega))
      have T := Tz_own hv (O2.2.1 okN).1 (by rw [eb]; exact lt) (nx okN)
      refine ⟨fun _ => ?_, fun q => absurd h5 q⟩
      rw [mmD_iff, mAdd_ok (by omega) (by omega)]
      refine ⟨by omega, hy _ (SO_w (SO_put O2 okN ?_ ?_ ?_ ?_ ?_ ?_ ?_ ?_ T))⟩
      · unfold adO; rw [eb, if_pos lt, mmS_row (by omega), mmS_row (by omega)]
      · unfold adO; rw [eb, if_pos lt, mmS_row (by omega), mmS_row (by omega)]
      · unfold adO; rw [eb, if_pos lt, mmS_row (by omega), mmS_row (by omega)]
      · unfold adO; rw [eb, if_pos lt, mmS_cell (by omega), mmS_cell (by omega)]
      · rw [mmS_row (by omega), mmS_row (by omega)]
      · rw [mmS_row (by omega), mmS_row (by omega)]
      · rw [mmS_row (by omega), mmS_row (by omega)]
      · exact (Fr.rf.put (ScM_r _ _ (by omega))).put (ScM_r _ _ (by omega))
    · have h5 : h2 282 5 ≠ 0 := by rw [SO_5 O2]; exact okN
      rw [okE_bad okN] at hy
      exact ⟨fun q => absurd q h5, fun _ => hy h2 (SO_w O2)⟩
  · have bn : newN v (begH (g v 0) 5 g) 3 0 ≠ 0 := by rw [((sk_newN (v := v)) bad).1]; exact bad
    rw [okE_bad bn]
    exact SO_gone hv O1 bad (Sc_newN hv O1.1.1) r3_newN sk_newN fr_newN
end TS
