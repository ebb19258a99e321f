/-! ===== mm: gaps told ===== -/
section TG
variable {d : Nat} {P P' : Prop} {v n0 z0 k : Int} {m g g' h h' : mmH} {Q : Int → mmH → Prop}
theorem Tz_gap {a b n : Int} (hv : v = 5 ∨ v = 46) (hT : Tz v g h) (ha : 0 ≤ a ∧ a < g v 1) (hb : 0 ≤ b ∧ b < g v 1) (hn : 0 ≤ n ∧ n ≤ 9) (hc : g v 2 < 20) :
    Tz v (mmS (mmS (mmS g (v + 23 + a) b n) (v + 23 + b) a n) v 2 (g v 2 + 1)) (mmS (mmS (mmS h 316 (10 * a + b) (n + 1)) 316 (10 * b + a) (n + 1)) 313 3 (h 313 3 + 1)) := by
  obtain ⟨⟨⟨a0, a1, a2, a3, a4⟩, ⟨b0, b1, b2, b3, b4⟩, c1, c2, c3, c4⟩, t2, t3, t4, t5, t6⟩ := hT
  have R : ∀ j, j ≠ v → j ≠ v + 23 + a → j ≠ v + 23 + b → mmS (mmS (mmS g (v + 23 + a) b n) (v + 23 + b) a n) v 2 (g v 2 + 1) j = g j := fun j q1 q2 q3 => by rw [mmS_row q1, mmS_row q3, mmS_row q2]
  have C : ∀ i, i ≠ 2 → mmS (mmS (mmS g (v + 23 + a) b n) (v + 23 + b) a n) v 2 (g v 2 + 1) v i = g v i := fun i q => by rw [mmS_slot, if_neg q, mmS_cell (by omega), mmS_cell (by omega)]
  have C2 : mmS (mmS (mmS g (v + 23 + a) b n) (v + 23 + b) a n) v 2 (g v 2 + 1) v 2 = g v 2 + 1 := by rw [mmS_slot, if_pos rfl]
  have CG : ∀ i c, 0 ≤ i → mmS (mmS (mmS g (v + 23 + a) b n) (v + 23 + b) a n) v 2 (g v 2 + 1) (v + 23 + i) c = if (i = a ∧ c = b) ∨ (i = b ∧ c = a) then n else g (v + 23 + i) c := fun i c i0 => by
    · rw [mmS_cell (by omega)]
      unfold mmS
      by_cases q1 : i = b
      · subst q1
        by_cases q2 : c = a
        · rw [if_pos rfl, if_pos q2, if_pos (Or.inr ⟨rfl, q2⟩)]
        · rw [if_pos rfl, if_neg q2]
          by_cases q3 : i = a ∧ c = i
          · rw [if_pos (by omega), if_pos q3.2, if_pos (Or.inl q3)]
          · rw [if_neg (show ¬ ((i = a ∧ c = i) ∨ (i = i ∧ c = a)) from fun z => by omega)]
            by_cases q4 : i = a
            · rw [if_pos (by omega), if_neg (by omega)]
            · rw [if_neg (by omega)]
      · rw [if_neg (by omega)]
        by_cases q3 : i = a ∧ c = b
        · rw [if_pos (by omega), if_pos q3.2, if_pos (Or.inl q3)]
        · rw [if_neg (show ¬ ((i = a ∧ c = b) ∨ (i = b ∧ c = a)) from fun z => by omega)]
          by_cases q4 : i = a
          · rw [if_pos (by omega), if_neg (by omega)]
          · rw [if_neg (by omega)]
  have H : ∀ j, j ≠ 313 → j ≠ 316 → mmS (mmS (mmS h 316 (10 * a + b) (n + 1)) 316 (10 * b + a) (n + 1)) 313 3 (h 313 3 + 1) j = h j := fun j q1 q2 => by rw [mmS_row q1, mmS_row q2, mmS_row q2]
  have H3 : ∀ i, i ≠ 3 → mmS (mmS (mmS h 316 (10 * a + b) (n + 1)) 316 (10 * b + a) (n + 1)) 313 3 (h 313 3 + 1) 313 i = h 313 i := fun i q => by rw [mmS_slot, if_neg q, mmS_cell (by omega), mmS_cell (by omega)]
  have H0 : mmS (mmS (mmS h 316 (10 * a + b) (n + 1)) 316 (10 * b + a) (n + 1)) 313 3 (h 313 3 + 1) 313 3 = h 313 3 + 1 := by rw [mmS_slot, if_pos rfl]
  have HG : ∀ i, mmS (mmS (mmS h 316 (10 * a + b) (n + 1)) 316 (10 * b + a) (n + 1)) 313 3 (h 313 3 + 1) 316 i = if i = 10 * b + a then n + 1 else if i = 10 * a + b then n + 1 else h 316 i := fun i => by rw [mmS_cell (by omega), mmS_slot, mmS_slot]
  generalize mmS (mmS (mmS g (v + 23 + a) b n) (v + 23 + b) a n) v 2 (g v 2 + 1) = G at R C C2 CG
  generalize mmS (mmS (mmS h 316 (10 * a + b) (n + 1)) 316 (10 * b + a) (n + 1)) 313 3 (h 313 3 + 1) = M at H H3 H0 HG
  have r33 := R (v + 33) (by omega) (by omega) (by omega)
  refine ⟨⟨⟨by rw [H3 0 (by omega), C 0 (by omega)]; exact a0, by rw [H3 1 (by omega), C 1 (by omega)]; exact a1, by rw [H3 2 (by omega), C 3 (by omega)]; exact a2, by rw [H0, C2, a3], by rw [H3 4 (by omega), r33]; exact a4⟩, ⟨by rw [C 0 (by omega)]; exact b0, by rw [C 1 (by omega)]; exact b1, by rw [C 3 (by omega)]; exact b2, by rw [C2]; omega, by rw [r33]; exact b4⟩, by rw [C 4 (by omega)]; exact c1, by rw [C 5 (by omega)]; exact c2, by rw [H 319 (by omega) (by omega), C 5 (by omega)]; exact c3, by rw [H 318 (by omega) (by omega), C 4 (by omega)]; exact c4⟩, ?_, ?_, ?_, ?_, ?_⟩
  · intro l l1 l2
    rw [C 1 (by omega)] at l2
    rw [C 0 (by omega), R (v + 5 + l) (by omega) (by omega) (by omega), H 315 (by omega) (by omega)]
    exact t2 l l1 l2
  · intro l l1 l2
    rw [C 3 (by omega)] at l2
    rw [C 1 (by omega), R (v + 16 + l) (by omega) (by omega) (by omega), H 317 (by omega) (by omega)]
    exact t3 l l1 l2
  · refine ⟨fun i c p1 p2 q1 q2 => ?_, fun i c p1 p2 q1 q2 w => ?_⟩
    · rw [C 1 (by omega)] at p2 q2
      rw [CG _ _ p1, HG]
      have t := t4.1 i c p1 p2 q1 q2
      by_cases z1 : i = b ∧ c = a
      · rw [if_pos (by omega), if_pos (Or.inr z1)]; omega
      · rw [if_neg (by omega)]
        by_cases z2 : i = a ∧ c = b
        · rw [if_pos (by omega), if_pos (Or.inl z2)]; omega
        · rw [if_neg (by omega), if_neg (show ¬ ((i = a ∧ c = b) ∨ (i = b ∧ c = a)) from fun z => by omega)]
          exact t
    · rw [C 1 (by omega)] at w
      rw [CG _ _ p1, if_neg (by omega)]
      exact t4.2 i c p1 p2 q1 q2 w
  · unfold zName
    rw [C 0 (by omega), C 1 (by omega), C 3 (by omega), R (v + 1) (by omega) (by omega) (by omega), R (v + 2) (by omega) (by omega) (by omega), R (v + 3) (by omega) (by omega) (by omega), H 314 (by omega) (by omega)]
    exact t5
  · unfold zLaw
    rw [r33, R (v + 34) (by omega) (by omega) (by omega), R (v + 35) (by omega) (by omega) (by omega), R (v + 36) (by omega) (by omega) (by omega), R (v + 37) (by omega) (by omega) (by omega), R (v + 38) (by omega) (by omega) (by omega), H 320 (by omega) (by omega), H 321 (by omega) (by omega), H 322 (by omega) (by omega), H 324 (by omega) (by omega), H 325 (by omega) (by omega), H 326 (by omega) (by omega), H 282 (by omega) (by omega)]
    exact t6
theorem rf_bad {t : Bool} (bad : g 3 0 ≠ 0) : rfH t g = g := by
  unfold rfH
  split
  · unfold flH; rw [if_pos bad]
  · rfl
theorem q_gap (hv : v = 5 ∨ v = 46) (ok : g 3 0 = 0) (hO : SO P v n0 z0 k m (psH g) h) (hy : ∀ h', SO False v n0 z0 k m (gapF v g) h' → Q 0 h') : qC tFM (d + 6) k_m_gapTold [282, g 3 4] h Q := by
  have e0 : psH g v = g v := r3_v hv r3_ps
  have okp : psH g 3 0 = 0 := by unfold psH; rw [mmS_slot, if_neg (by omega), mmS_slot, if_neg (by omega)]; exact ok
  have nz := (hO.2.1 okp).1.1
  have c3 := nz.1.2.2.2.1
  have bb := nz.2.1.2.2.2.1
  rw [e0] at c3 bb
  unfold gapF at hy
  -- behind both names
  have three : ∀ (x2 x3 : Int) (h3 : mmH), (rfH (gaW v (gaC v g) (lbX v (gaA v g)) (lbX v (gaB v g))) (gaC v g) 3 0 = 0 → (x2 = lbX v (gaA v g) ∧ 0 ≤ x2 ∧ x2 < g v 1) ∧ (x3 = lbX v (gaB v g) ∧ 0 ≤ x3 ∧ x3 < g v 1) ∧ g v 2 < 20) → SO True v n0 z0 k m (rfH (gaW v (gaC v g) (lbX v (gaA v g)) (lbX v (gaB v g))) (gaC v g)) h3 → qB tFM (d + 5) k_m_gapTold (h 0 0) (h 0 1) Q 3 [(3, 282), (1, g 3 4), (1, x2), (1, x3), (0, 0)] [] h3 := fun x2 x3 h3 ex O3 => by
    refine T_m_gapTold_3 _ _ _ _ _ _ _ _ (o_asks (w := 9) hv (by omega) (by omega) O3 (fun h4 O4 => o_number hv O4 (fun y h5 ey O5 => ?_)))
    have eA : twH 9 (rfH (gaW v (gaC v g) (lbX v (gaA v g)) (lbX v (gaB v g))) (gaC v g)) = gaD v g := rfl
    rw [eA] at ey O5
    by_cases okn : nuH 0 9 (gaD v g) 3 0 = 0
    · have h5' : h5 282 5 = 0 := by rw [SO_5 O5]; exact okn
      have okD := stk_back sk_nu okn
      have okr := stk_back (sk_tw (w := 9)) (show twH 9 (rfH (gaW v (gaC v g) (lbX v (gaA v g)) (lbX v (gaB v g))) (gaC v g)) 3 0 = 0 from okD)
      obtain ⟨⟨e1, e2, e3⟩, ⟨f1, f2, f3⟩, lt⟩ := ex okr
      obtain ⟨y1, y2, y3⟩ := ey okn
      rw [okE_ok okn, ← e1, ← f1, ← y1] at hy
      have ev : nuH 0 9 (gaD v g) v = g v := (r3_v hv r3_nu).trans ((r3_v hv r3_tw).trans ((r3_v hv r3_rf).trans ((r3_v hv r3_lb).trans ((r3_v hv r3_lb).trans (r3_v hv r3_beg)))))
      have T0 := (O5.2.1 okn).1
      have bl := T0.1.2.1.2.1
      have n3 := T0.1.1.2.2.2.1
      rw [ev] at bl n3
      have T := Tz_gap hv T0 (a := x2) (b := x3) (n := y) (by rw [ev]; exact ⟨e2, e3⟩) (by rw [ev]; exact ⟨f2, f3⟩) ⟨y2, y3⟩ (by rw [ev]; exact lt)
      refine ⟨fun _ => ?_, fun q => absurd h5' q⟩
      rw [mmD_iff, mMul_ok (by omega) (by omega), mAdd_ok (by omega) (by omega), mmD_iff, mMul_ok (by omega) (by omega), mAdd_ok (by omega) (by omega), mAdd_ok (by omega) (by omega), mAdd_ok (by omega) (by omega)]
      refine ⟨by omega, by omega, hy _ (SO_w ?_)⟩
      have ea : adG v x2 x3 y (nuH 0 9 (gaD v g)) = mmS (mmS (mmS (nuH 0 9 (gaD v g)) (v + 23 + x2) x3 y) (v + 23 + x3) x2 y) v 2 (nuH 0 9 (gaD v g) v 2 + 1) := by
        unfold adG isLo
        rw [if_pos (by rw [ev]; omega)]
      rw [ea]
      refine SO_put O5 okn ?_ ?_ ?_ ?_ ?_ ?_ ?_ ?_ T
      · rw [mmS_row (by omega), mmS_row (by omega), mmS_row (by omega)]
      · rw [mmS_row (by omega), mmS_row (by omega), mmS_row (by omega)]
      · rw [mmS_row (by omega), mmS_row (by omega), mmS_row (by omega)]
      · rw [mmS_cell (by omega), mmS_cell (by omega), mmS_cell (by omega)]
      · rw [mmS_row (by omega), mmS_row (by omega), mmS_row (by omega)]
      · rw [mmS_row (by omega), mmS_row (by omega), mmS_row (by omega)]
      · rw [mmS_row (by omega), mmS_row (by omega), mmS_row (by omega)]
      · exact ((Fr.rf.put (ScM_r _ _ (by omega))).put (ScM_r _ _ (by omega))).put (ScM_r _ _ (by omega))
    · have h5' : h5 282 5 ≠ 0 := by rw [SO_5 O5]; exact okn
      rw [okE_bad okn] at hy
      exact ⟨fun q => absurd q h5', fun _ => hy h5 (SO_w O5)⟩
  refine qC_intro (T_m_gapTold_0 _ _ _ _ _ _ (o_isFull (n := g v 2) (c := 20) hv ok hO (by omega) c3 (by omega) rfl (fun h1 okB O1 => ⟨fun _ => o_lot hv O1 (fun x2 h2 e1 _ O2 => o_lot hv O2 (fun x3 h3 e2 _ O3 => ?_)), fun q => absurd rfl q⟩) (fun h1 bad O1 => ⟨fun q => absurd q (by omega), fun _ => hy h1 ?_⟩)))
  · have lt : g v 2 < 20 := by
      unfold begH at okB
      by_cases q : g v 2 < 20
      · exact q
      · rw [if_neg q] at okB
        exact absurd (stk_back sk_ps okB) (fl_bad (by omega))
    have gA : begH (g v 2) 20 g = gaA v g := rfl
    have gB : lbH v (gaA v g) = gaB v g := rfl
    have gC : lbH v (gaB v g) = gaC v g := rfl
    rw [gA] at e1 e2 O3
    rw [gB] at e1 e2 O3
    rw [gC] at e2 O3
    have evA : gaA v g v = g v := r3_v hv r3_beg
    have evB : gaB v g v = g v := (r3_v hv r3_lb).trans evA
    have evC : gaC v g v = g v := (r3_v hv r3_lb).trans evB
    rw [evA] at e1
    rw [evB] at e2
    by_cases okC : gaC v g 3 0 = 0
    · have h5 : h3 282 5 = 0 := by rw [SO_5 O3]; exact okC
      have okB2 : gaB v g 3 0 = 0 := stk_back sk_lb okC
      have e1 := e1 okB2
      have e2 := e2 okC
      have T0 := (O3.2.1 okC).1
      have bl := T0.1.2.1.2.1
      rw [evC] at bl
      have tg := T0.2.2.2.1.1 x2 x3 e1.2.1 (by rw [evC]; exact e1.2.2) e2.2.1 (by rw [evC]; exact e2.2.2)
      refine ⟨fun q => absurd h5 q, fun _ => ⟨fun q => ?_, fun q => ?_⟩⟩
      · have er : gaW v (gaC v g) (lbX v (gaA v g)) (lbX v (gaB v g)) = true := by
          unfold gaW
          exact @decide_eq_true _ (Classical.propDecidable _) (Or.inl (by omega))
        refine o_fail hv (by omega) O3 (fun _ => SO_38 O3 okC) (fun h4 O4 => three x2 x3 h4 ?_ ?_)
        · rw [er]; exact fun z => absurd z (fl_bad (by omega))
        · rw [er]; exact O4
      · rw [mmD_iff, mMul_ok (by omega) (by omega), mAdd_ok (by omega) (by omega), tg.1]
        refine ⟨by omega, fun q2 => ?_, fun q2 => ?_⟩
        · have er : gaW v (gaC v g) (lbX v (gaA v g)) (lbX v (gaB v g)) = false := by
            unfold gaW
            refine @decide_eq_false _ (Classical.propDecidable _) (fun z => ?_)
            rw [← e1.1, ← e2.1] at z
            omega
          refine three x2 x3 h3 ?_ ?_
          · rw [er]; exact fun _ => ⟨e1, e2, lt⟩
          · rw [er]; exact O3
        · have er : gaW v (gaC v g) (lbX v (gaA v g)) (lbX v (gaB v g)) = true := by
            unfold gaW
            rw [← e1.1, ← e2.1]
            exact @decide_eq_true _ (Classical.propDecidable _) (Or.inr ⟨⟨e1.2.1, by rw [evC]; exact e1.2.2⟩, ⟨e2.2.1, by rw [evC]; exact e2.2.2⟩, by omega⟩)
          refine o_fail hv (by omega) O3 (fun _ => SO_38 O3 okC) (fun h4 O4 => three x2 x3 h4 ?_ ?_)
          · rw [er]; exact fun z => absurd z (fl_bad (by omega))
          · rw [er]; exact O4
    · have h5 : h3 282 5 ≠ 0 := by rw [SO_5 O3]; exact okC
      refine ⟨fun _ => three x2 x3 h3 ?_ ?_, fun q => absurd h5 q⟩
      · rw [rf_bad okC]; exact fun z => absurd z okC
      · rw [rf_bad okC]; exact O3
  · have S1 := O1.1.1
    have k1 : Stk (gaA v g) (nuH 0 9 (gaD v g)) := (((sk_lb (v := v)).tr (sk_lb (v := v))).tr ((sk_rf).tr sk_tw)).tr sk_nu
    have bn : nuH 0 9 (gaD v g) 3 0 ≠ 0 := by rw [(k1 bad).1]; exact bad
    rw [okE_bad bn]
    exact SO_gone hv O1 bad (Sc_nu hv (Sc_tw hv (Sc_rf hv (Sc_lb hv (Sc_lb hv S1))))) (((r3_lb (v := v)).tr (r3_lb (v := v))).tr (r3_rf.tr (r3_tw.tr r3_nu))) k1 (((fr_lb (v := v)).tr (fr_lb (v := v))).tr (fr_rf.tr (fr_tw.tr fr_nu)))
end TG
