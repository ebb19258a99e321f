/-! ===== mm: persons told, in lockstep ===== -/
section TQ
variable {d : Nat} {P P' : Prop} {v n0 z0 k : Int} {m g g' h h' : mmH} {Q : Int → mmH → Prop}
theorem peW_row {r w lo hi i : Int} (hv : v = 5 ∨ v = 46) (hr : 0 ≤ r ∧ r < 6) (j : Int) : peW v r w lo hi i g (v + 16 + r) j = if j = i then nuV (skH (twH w g)) else g (v + 16 + r) j := by
  unfold peW
  rw [mmS_slot, r3_nu _ (by omega), r3_tw _ (by omega)]
theorem peL_row {r w i : Int} (hv : v = 5 ∨ v = 46) (hr : 0 ≤ r ∧ r < 6) (j : Int) : peL v r w i g (v + 16 + r) j = if j = i then lbX v (twH w g) else g (v + 16 + r) j := by
  unfold peL
  rw [mmS_slot, r3_lb _ (by omega), r3_tw _ (by omega)]
theorem peW_v {r w lo hi i : Int} (hv : v = 5 ∨ v = 46) (hr : 0 ≤ r ∧ r < 6) : peW v r w lo hi i g v = g v := by
  unfold peW
  rw [mmS_row (by omega), r3_nu _ (by omega), r3_tw _ (by omega)]
theorem peL_v {r w i : Int} (hv : v = 5 ∨ v = 46) (hr : 0 ≤ r ∧ r < 6) : peL v r w i g v = g v := by
  unfold peL
  rw [mmS_row (by omega), r3_lb _ (by omega), r3_tw _ (by omega)]
theorem peW_30 {r w lo hi i : Int} (hv : v = 5 ∨ v = 46) (hr : 0 ≤ r ∧ r < 6) : peW v r w lo hi i g 3 0 = nuH lo hi (twH w g) 3 0 := by
  unfold peW
  rw [mmS_cell (by omega)]
theorem peL_30 {r w i : Int} (hv : v = 5 ∨ v = 46) (hr : 0 ≤ r ∧ r < 6) : peL v r w i g 3 0 = lbH v (twH w g) 3 0 := by
  unfold peL
  rw [mmS_cell (by omega)]
theorem goneW {r w lo hi i : Int} (hv : v = 5 ∨ v = 46) (hr : 0 ≤ r ∧ r < 6) (hO : SO P v n0 z0 k m g h) (bad : g 3 0 ≠ 0) : SO P v n0 z0 k m (peW v r w lo hi i g) h ∧ peW v r w lo hi i g 3 0 ≠ 0 := by
  have k1 : Stk g (nuH lo hi (twH w g)) := sk_tw.tr sk_nu
  have b1 : nuH lo hi (twH w g) 3 0 ≠ 0 := by rw [(k1 bad).1]; exact bad
  exact ⟨SO_16 hv hr (SO_gone hv hO bad (Sc_nu hv (Sc_tw hv hO.1.1)) (r3_tw.tr r3_nu) k1 (fr_tw.tr fr_nu)) (fun z => absurd z b1), by rw [peW_30 hv hr]; exact b1⟩
theorem goneL {r w i : Int} (hv : v = 5 ∨ v = 46) (hr : 0 ≤ r ∧ r < 6) (hO : SO P v n0 z0 k m g h) (bad : g 3 0 ≠ 0) : SO P v n0 z0 k m (peL v r w i g) h ∧ peL v r w i g 3 0 ≠ 0 := by
  have k1 : Stk g (lbH v (twH w g)) := sk_tw.tr sk_lb
  have b1 : lbH v (twH w g) 3 0 ≠ 0 := by rw [(k1 bad).1]; exact bad
  exact ⟨SO_16 hv hr (SO_gone hv hO bad (Sc_lb hv (Sc_tw hv hO.1.1)) (r3_tw.tr r3_lb) k1 (fr_tw.tr fr_lb)) (fun z => absurd z b1), by rw [peL_30 hv hr]; exact b1⟩
/-- a word and a number; a word and a lot -/
theorem o_peW {r w lo hi i : Int} (hv : v = 5 ∨ v = 46) (hr : 0 ≤ r ∧ r < 6) (hO : SO P v n0 z0 k m (twH w g) h) (h3 : g v 3 ≤ r) (hy : ∀ x h', (peW v r w lo hi i g 3 0 = 0 → x = nuV (skH (twH w g)) ∧ lo ≤ x ∧ x ≤ hi) → SO P v n0 z0 k m (peW v r w lo hi i g) h' → Q x h') : qC tFM (d + 2) k_m_number [282, lo, hi] h Q :=
  o_number hv hO (fun x h' ex O => hy x h' (fun z => ex (by rw [← peW_30 hv hr (i := i)]; exact z)) (SO_16 hv hr O (fun _ => by rw [r3_v hv r3_nu, r3_v hv r3_tw]; exact h3)))
theorem o_peL {r w i : Int} (hv : v = 5 ∨ v = 46) (hr : 0 ≤ r ∧ r < 6) (hO : SO P v n0 z0 k m (twH w g) h) (h3 : g v 3 ≤ r) (hy : ∀ x h', (peL v r w i g 3 0 = 0 → x = lbX v (twH w g) ∧ 0 ≤ x ∧ x < g v 1) → SO True v n0 z0 k m (peL v r w i g) h' → Q x h') : qC tFM (d + 5) k_m_oneOf [282, 1] h Q :=
  o_lot hv hO (fun x h' ex _ O => hy x h' (fun z => by
    have := ex (by rw [← peL_30 hv hr (i := i)]; exact z)
    rw [r3_v hv r3_tw] at this
    exact this) (SO_16 hv hr O (fun _ => by rw [r3_v hv r3_lb, r3_v hv r3_tw]; exact h3)))
theorem adP_row {x j : Int} (hj : j ≠ v ∧ j ≠ v + 3) (hlt : g v 3 < 6) : adP v x g j = g j := by
  unfold adP
  rw [if_pos hlt, mmS_row (by omega), mmS_row (by omega)]
set_option maxHeartbeats 4000000 in
theorem q_per (hv : v = 5 ∨ v = 46) (ok : g 3 0 = 0) (hO : SO P v n0 z0 k m (psH g) h) (hy : ∀ h', SO False v n0 z0 k m (perF v g) h' → Q 0 h') : qC tFM (d + 6) k_m_personTold [282, g 3 4] h Q := by
  have e0 : psH g v = g v := r3_v hv r3_ps
  have c0 := (SO_cn hO).2.2
  have bb := hO.2.2.1.2.2.1.2
  rw [e0] at c0 bb
  have vA : peA v g v = g v := (r3_v hv r3_newN).trans (r3_v hv r3_beg)
  have hr : 0 ≤ peR v g ∧ peR v g < 6 := by
    unfold peR mMin
    rw [vA]
    split <;> omega
  unfold perF at hy
  refine qC_intro (T_m_personTold_0 _ _ _ _ _ _ (o_isFull (n := g v 3) (c := 6) hv ok hO (by omega) c0 (by omega) rfl (fun h1 okB O1 => ⟨fun _ => ?_, fun q => absurd rfl q⟩) (fun h1 bad O1 => ⟨fun q => absurd q (by omega), fun _ => hy h1 ?_⟩)))
  · have lt : g v 3 < 6 := by
      unfold begH at okB
      by_cases q : g v 3 < 6
      · exact q
      · rw [if_neg q] at okB
        exact absurd (stk_back sk_ps okB) (fl_bad (by omega))
    have er : peR v g = g v 3 := by
      unfold peR mMin
      rw [vA]
      split <;> omega
    have n1 : h1 313 2 = g v 3 := by rw [(SO_cn O1).2.2]; rw [show begH (g v 3) 6 g v = g v from r3_v hv r3_beg]
    have hA3 : peA v g v 3 ≤ peR v g := by rw [vA, er]; omega
    refine T_m_personTold_1 _ _ _ _ _ _ (o_newName hv O1 (fun x h2 nx O2 => o_asks (d := d + 1) (w := 11) hv (by omega) (by omega) O2 (fun h3 O3 => ?_)))
    rw [n1]
    have eA : newN v (begH (g v 3) 6 g) = peA v g := rfl
    rw [eA] at nx O3
    refine o_peW (d := d + 3) (r := peR v g) (i := 0) hv hr O3 hA3 (fun a0 h4 e0' O4 => o_asks (d := d + 1) (w := 12) hv (by omega) (by omega) O4 (fun h5 O5 => ?_))
    refine T_m_personTold_1_23 _ _ _ _ _ _ _ _ _ (o_peW (d := d + 3) (r := peR v g) (i := 1) hv hr O5 (by rw [peW_v hv hr]; exact hA3) (fun a1 h6 e1 O6 => o_asks (d := d + 1) (w := 13) hv (by omega) (by omega) O6 (fun h7 O7 => o_peW (d := d + 3) (r := peR v g) (i := 2) hv hr O7 (by rw [peW_v hv hr, peW_v hv hr]; exact hA3) (fun a2 h8 e2 O8 => o_asks (d := d + 1) (w := 14) hv (by omega) (by omega) O8 (fun h9 O9 => ?_)))))
    refine T_m_personTold_1_41 _ _ _ _ _ _ _ _ _ _ _ (o_peW (d := d + 3) (r := peR v g) (i := 3) hv hr O9 (by rw [peW_v hv hr, peW_v hv hr, peW_v hv hr]; exact hA3) (fun a3 h10 e3 O10 => o_asks (d := d + 1) (w := 15) hv (by omega) (by omega) O10 (fun h11 O11 => ?_)))
    have eB : peW v (peR v g) 14 0 9 3 (peW v (peR v g) 13 0 20 2 (peW v (peR v g) 12 0 9 1 (peW v (peR v g) 11 1 99 0 (peA v g)))) = peB v g := rfl
    rw [eB] at e3 O11
    have vB : peB v g v = g v := by rw [← eB, peW_v hv hr, peW_v hv hr, peW_v hv hr, peW_v hv hr, vA]
    refine o_peL (d := d) (r := peR v g) (i := 4) hv hr O11 (by rw [vB, er]; omega) (fun a4 h12 e4 O12 => o_asks (d := d + 1) (w := 16) hv (by omega) (by omega) O12 (fun h13 O13 => ?_))
    refine T_m_personTold_1_58 _ _ _ _ _ _ _ _ _ _ _ _ _ (o_peL (d := d) (r := peR v g) (i := 5) hv hr O13 (by rw [peL_v hv hr, vB, er]; omega) (fun a5 h14 e5 O14 => ?_))
    have eC : peL v (peR v g) 16 5 (peL v (peR v g) 15 4 (peB v g)) = peC v g := rfl
    rw [eC] at e5 O14
    have vC : peC v g v = g v := by rw [← eC, peL_v hv hr, peL_v hv hr, vB]
    -- what is told, once no fault is left
    have all : peC v g 3 0 = 0 → nmR (nmX (begH (g v 3) 6 g)) x ∧ (∀ i, 0 ≤ i → i < 6 → peC v g (v + 16 + g v 3) i = (if i = 0 then a0 else if i = 1 then a1 else if i = 2 then a2 else if i = 3 then a3 else if i = 4 then a4 else a5)) ∧ (1 ≤ a0 ∧ a0 ≤ 99) ∧ (0 ≤ a1 ∧ a1 ≤ 9) ∧ (0 ≤ a2 ∧ a2 ≤ 20) ∧ (0 ≤ a3 ∧ a3 ≤ 9) ∧ (0 ≤ a4 ∧ a4 < g v 1) ∧ (0 ≤ a5 ∧ a5 < g v 1) := fun okC => by
      have ok5 : peL v (peR v g) 15 4 (peB v g) 3 0 = 0 := stk_back (sk_tw (w := 16)) (stk_back (sk_lb (v := v)) (by rw [← peL_30 hv hr (i := 5)]; exact okC))
      have ok4 : peB v g 3 0 = 0 := stk_back (sk_tw (w := 15)) (stk_back (sk_lb (v := v)) (by rw [← peL_30 hv hr (i := 4)]; exact ok5))
      have ok3 : peW v (peR v g) 13 0 20 2 (peW v (peR v g) 12 0 9 1 (peW v (peR v g) 11 1 99 0 (peA v g))) 3 0 = 0 := stk_back (sk_tw (w := 14)) (stk_back (sk_nu (lo := 0) (hi := 9)) (by rw [← peW_30 hv hr (i := 3)]; exact ok4))
      have ok2 : peW v (peR v g) 12 0 9 1 (peW v (peR v g) 11 1 99 0 (peA v g)) 3 0 = 0 := stk_back (sk_tw (w := 13)) (stk_back (sk_nu (lo := 0) (hi := 20)) (by rw [← peW_30 hv hr (i := 2)]; exact ok3))
      have ok1 : peW v (peR v g) 11 1 99 0 (peA v g) 3 0 = 0 := stk_back (sk_tw (w := 12)) (stk_back (sk_nu (lo := 0) (hi := 9)) (by rw [← peW_30 hv hr (i := 1)]; exact ok2))
      have okA : peA v g 3 0 = 0 := stk_back (sk_tw (w := 11)) (stk_back (sk_nu (lo := 1) (hi := 99)) (by rw [← peW_30 hv hr (i := 0)]; exact ok1))
      have q0 := e0' ok1
      have q1 := e1 ok2
      have q2 := e2 ok3
      have q3 := e3 ok4
      have q4 := e4 ok5
      have q5 := e5 okC
      rw [vB] at q4
      rw [peL_v hv hr, vB] at q5
      refine ⟨nx okA, fun i i1 i2 => ?_, q0.2, q1.2, q2.2, q3.2, q4.2, q5.2⟩
      rw [← er, ← eC, peL_row hv hr, peL_row hv hr, ← eB, peW_row hv hr, peW_row hv hr, peW_row hv hr, peW_row hv hr]
      have : i = 0 ∨ i = 1 ∨ i = 2 ∨ i = 3 ∨ i = 4 ∨ i = 5 := by omega
      rcases this with e | e | e | e | e | e <;> subst e
      · rw [if_neg (by omega), if_neg (by omega), if_neg (by omega), if_neg (by omega), if_neg (by omega), if_pos rfl, if_pos rfl]; exact q0.1.symm
      · rw [if_neg (by omega), if_neg (by omega), if_neg (by omega), if_neg (by omega), if_pos rfl, if_neg (by omega), if_pos rfl]; exact q1.1.symm
      · rw [if_neg (by omega), if_neg (by omega), if_neg (by omega), if_pos rfl, if_neg (by omega), if_neg (by omega), if_pos rfl]; exact q2.1.symm
      · rw [if_neg (by omega), if_neg (by omega), if_pos rfl, if_neg (by omega), if_neg (by omega), if_neg (by omega), if_pos rfl]; exact q3.1.symm
      · rw [if_neg (by omega), if_pos rfl, if_neg (by omega), if_neg (by omega), if_neg (by omega), if_neg (by omega), if_pos rfl, eB]; exact q4.1.symm
      · rw [if_pos rfl, if_neg (by omega), if_neg (by omega), if_neg (by omega), if_neg (by omega), if_neg (by omega), eB]; exact q5.1.symm
    -- block 2
    have two : ∀ h15, (peD v g 3 0 = 0 → peC v g 3 0 = 0 ∧ a4 ≠ a5) → SO True v n0 z0 k m (peD v g) h15 → qB tFM (d + 5) k_m_personTold (h 0 0) (h 0 1) Q 2 [(3, 282), (1, g 3 4), (1, mMul 6 (g v 3)), (2, x), (0, 0), (1, a0), (1, a1), (1, a2), (1, a3), (1, a4), (1, a5)] [] h15 := fun h15 eD O15 => by
      refine T_m_personTold_2 _ _ _ _ _ _ _ _ _ _ _ _ _ _ ?_
      by_cases okD : peD v g 3 0 = 0
      · have h5' : h15 282 5 = 0 := by rw [SO_5 O15]; exact okD
        obtain ⟨okC, ne⟩ := eD okD
        obtain ⟨nx, hc, b0, b1, b2, b3, b4, b5⟩ := all okC
        rw [okE_ok okD] at hy
        have vD : peD v g v = g v := (r3_v hv r3_rf).trans vC
        have n15 : h15 313 2 = g v 3 := by rw [(SO_cn O15).2.2, vD]
        refine ⟨fun _ => ?_, fun q => absurd h5' q⟩
        rw [n15, mMul_ok (by omega) (by omega), mmD_iff, mAdd_ok (by omega) (by omega), mmD_iff, mmD_iff, mAdd_ok (by omega) (by omega), mmD_iff, mAdd_ok (by omega) (by omega), mmD_iff, mAdd_ok (by omega) (by omega), mmD_iff, mAdd_ok (by omega) (by omega), mmD_iff, mAdd_ok (by omega) (by omega), mAdd_ok (by omega) (by omega)]
        refine ⟨by omega, by omega, by omega, by omega, by omega, by omega, by omega, hy _ (SO_w ?_)⟩
        have T : Tz v (adP v (nmX (begH (g v 3) 6 g)) (peD v g)) (mmS (mmS (mmS (mmS (mmS (mmS (mmS (mmS h15 314 (20 + g v 3) x) 317 (6 * g v 3) a0) 317 (6 * g v 3 + 1) a1) 317 (6 * g v 3 + 2) a2) 317 (6 * g v 3 + 3) a3) 317 (6 * g v 3 + 4) a4) 317 (6 * g v 3 + 5) a5) 313 2 (g v 3 + 1)) := by
          refine Tz_per hv (O15.2.1 okD).1 (n := g v 3) (c := fun i => if i = 0 then a0 else if i = 1 then a1 else if i = 2 then a2 else if i = 3 then a3 else if i = 4 then a4 else a5) (by rw [vD]) lt nx (fun i i1 i2 => ?_) ?_ (fun j q1 q2 q3 => ?_) (fun i => ?_) (fun i => ?_) (fun i => ?_)
          · rw [← hc i i1 i2]
            exact congrFun (r3_rf _ (by omega)) i
          · rw [vD]
            exact ⟨b0, b1, b2, b3, b4, b5, ne⟩
          · rw [mmS_row q1, mmS_row q3, mmS_row q3, mmS_row q3, mmS_row q3, mmS_row q3, mmS_row q3, mmS_row q2]
          · rw [mmS_slot, mmS_cell (by omega), mmS_cell (by omega), mmS_cell (by omega), mmS_cell (by omega), mmS_cell (by omega), mmS_cell (by omega), mmS_cell (by omega)]
          · rw [mmS_cell (by omega), mmS_cell (by omega), mmS_cell (by omega), mmS_cell (by omega), mmS_cell (by omega), mmS_cell (by omega), mmS_cell (by omega), mmS_slot]
          · rw [mmS_cell (by omega), mmS_slot, mmS_slot, mmS_slot, mmS_slot, mmS_slot, mmS_slot, mmS_cell (by omega)]
            by_cases z : 6 * g v 3 ≤ i ∧ i < 6 * g v 3 + 6
            · rw [if_pos z]
              obtain ⟨j, ej⟩ : ∃ j, i = 6 * g v 3 + j := ⟨i - 6 * g v 3, by omega⟩
              subst ej
              have : j = 0 ∨ j = 1 ∨ j = 2 ∨ j = 3 ∨ j = 4 ∨ j = 5 := by omega
              rw [show 6 * g v 3 + j - 6 * g v 3 = j by omega]
              rcases this with e | e | e | e | e | e <;> subst e
              · rw [if_neg (by omega), if_neg (by omega), if_neg (by omega), if_neg (by omega), if_neg (by omega), if_pos (by omega)]; rfl
              · rw [if_neg (by omega), if_neg (by omega), if_neg (by omega), if_neg (by omega), if_pos rfl]; rfl
              · rw [if_neg (by omega), if_neg (by omega), if_neg (by omega), if_pos rfl]; rfl
              · rw [if_neg (by omega), if_neg (by omega), if_pos rfl]; rfl
              · rw [if_neg (by omega), if_pos rfl]; rfl
              · rw [if_pos rfl]; rfl
            · rw [if_neg z, if_neg (by omega), if_neg (by omega), if_neg (by omega), if_neg (by omega), if_neg (by omega), if_neg (by omega)]
        have l8 : peD v g v 3 < 6 := by rw [vD]; exact lt
        refine SO_put O15 okD (adP_row (by omega) l8) (adP_row (by omega) l8) (adP_row (by omega) l8) (by rw [adP_row (by omega) l8]) ?_ ?_ ?_ ?_ T
        · rw [mmS_row (by omega), mmS_row (by omega), mmS_row (by omega), mmS_row (by omega), mmS_row (by omega), mmS_row (by omega), mmS_row (by omega), mmS_row (by omega)]
        · rw [mmS_row (by omega), mmS_row (by omega), mmS_row (by omega), mmS_row (by omega), mmS_row (by omega), mmS_row (by omega), mmS_row (by omega), mmS_row (by omega)]
        · rw [mmS_row (by omega), mmS_row (by omega), mmS_row (by omega), mmS_row (by omega), mmS_row (by omega), mmS_row (by omega), mmS_row (by omega), mmS_row (by omega)]
        · exact (((((((Fr.rf.put (ScM_r _ _ (by omega))).put (ScM_r _ _ (by omega))).put (ScM_r _ _ (by omega))).put (ScM_r _ _ (by omega))).put (ScM_r _ _ (by omega))).put (ScM_r _ _ (by omega))).put (ScM_r _ _ (by omega))).put (ScM_r _ _ (by omega))
      · have h5' : h15 282 5 ≠ 0 := by rw [SO_5 O15]; exact okD
        rw [okE_bad okD] at hy
        exact ⟨fun q => absurd q h5', fun _ => hy h15 (SO_w O15)⟩
    by_cases okC : peC v g 3 0 = 0
    · have h5' : h14 282 5 = 0 := by rw [SO_5 O14]; exact okC
      obtain ⟨-, hc, -⟩ := all okC
      have c4 : peC v g (v + 16 + peR v g) 4 = a4 := by rw [er, hc 4 (by omega) (by omega)]; rfl
      have c5 : peC v g (v + 16 + peR v g) 5 = a5 := by rw [er, hc 5 (by omega) (by omega)]; rfl
      refine ⟨fun q => absurd h5' q, fun _ => ⟨fun ne => ?_, fun eq => ?_⟩⟩
      · have eD : peD v g = peC v g := by
          unfold peD
          rw [c4, c5, decide_eq_false ne]
          rfl
        exact two h14 (fun _ => ⟨okC, ne⟩) (by rw [eD]; exact O14)
      · have eD : peD v g = flH 3 (peC v g 3 5) (peC v g) := by
          unfold peD
          rw [c4, c5, decide_eq_true (Decidable.of_not_not eq)]
          rfl
        exact o_fail (d := d + 4) hv (by omega) O14 (fun _ => SO_38 O14 okC) (fun h15 O15 => two h15 (fun z => absurd (by rw [← eD]; exact z) (fl_bad (w := 3) (p := peC v g 3 5) (g := peC v g) (by omega))) (by rw [eD]; exact O15))
    · have h5' : h14 282 5 ≠ 0 := by rw [SO_5 O14]; exact okC
      have eD : peD v g = peC v g := by unfold peD; rw [rf_bad okC]
      exact ⟨fun _ => two h14 (fun z => absurd (by rw [← eD]; exact z) okC) (by rw [eD]; exact O14), fun q => absurd h5' q⟩
  · have bA : peA v g 3 0 ≠ 0 := by
      have := ((sk_newN (v := v)) bad).1
      show newN v (begH (g v 3) 6 g) 3 0 ≠ 0
      rw [this]; exact bad
    have OA : SO P v n0 z0 k m (peA v g) h1 := SO_gone hv O1 bad (Sc_newN hv O1.1.1) r3_newN sk_newN fr_newN
    obtain ⟨p1, q1⟩ := goneW (r := peR v g) (w := 11) (lo := 1) (hi := 99) (i := 0) hv hr OA bA
    obtain ⟨p2, q2⟩ := goneW (r := peR v g) (w := 12) (lo := 0) (hi := 9) (i := 1) hv hr p1 q1
    obtain ⟨p3, q3⟩ := goneW (r := peR v g) (w := 13) (lo := 0) (hi := 20) (i := 2) hv hr p2 q2
    obtain ⟨p4, q4⟩ := goneW (r := peR v g) (w := 14) (lo := 0) (hi := 9) (i := 3) hv hr p3 q3
    obtain ⟨p5, q5⟩ := goneL (r := peR v g) (w := 15) (i := 4) hv hr p4 q4
    obtain ⟨p6, q6⟩ := goneL (r := peR v g) (w := 16) (i := 5) hv hr p5 q5
    have q6 : peC v g 3 0 ≠ 0 := q6
    have eD : peD v g = peC v g := by unfold peD; exact rf_bad q6
    rw [eD, okE_bad q6]
    exact ⟨⟨p6.1.1, p6.1.2.1, p6.1.2.2.1, p6.1.2.2.2.1, p6.1.2.2.2.2.1, fun z => absurd z q6⟩, p6.2⟩
end TQ
