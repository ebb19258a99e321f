/-! ===== mm: lots told, in lockstep; numbers ===== -/
section TK
variable {d : Nat} {P P' : Prop} {v n0 z0 k : Int} {m g g' h h' : mmH} {Q : Int → mmH → Prop}
theorem adL_row {x o e t j : Int} (hv : v = 5 ∨ v = 46) (hb : 0 ≤ g v 1) (hj : j < v ∨ v + 15 ≤ j) (hlt : g v 1 < 10) : adL v x o e t g j = g j := by
  unfold adL
  rw [if_pos hlt, mmS_row (by omega), mmS_row (by omega), mmS_row (by omega), mmS_row (by omega), mmS_row (by omega), mmS_row (by omega), mmS_row (by omega)]
theorem q_lot (hv : v = 5 ∨ v = 46) (ok : g 3 0 = 0) (hO : SO P v n0 z0 k m (psH g) h) (hy : ∀ h', SO False v n0 z0 k m (lotF v g) h' → Q 0 h') : qC tFM (d + 6) k_m_lotTold [282, g 3 4] h Q := by
  have e0 : psH g v = g v := r3_v hv r3_ps
  have c0 := (SO_cn hO).2.1
  have bb := hO.2.2.1.2.1.2
  rw [e0] at c0 bb
  unfold lotF at hy
  refine qC_intro (T_m_lotTold_0 _ _ _ _ _ _ (o_isFull (n := g v 1) (c := 10) hv ok hO (by omega) c0 (by omega) rfl (fun h1 okB O1 => ⟨fun _ => ?_, fun q => absurd rfl q⟩) (fun h1 bad O1 => ⟨fun q => absurd q (by omega), fun _ => hy h1 ?_⟩)))
  · have lt : g v 1 < 10 := by
      unfold begH at okB
      by_cases q : g v 1 < 10
      · exact q
      · rw [if_neg q] at okB
        exact absurd (stk_back sk_ps okB) (fl_bad (by omega))
    have n1 : h1 313 1 = g v 1 := by rw [(SO_cn O1).2.1]; rw [show begH (g v 1) 10 g v = g v from r3_v hv r3_beg]
    refine T_m_lotTold_1 _ _ _ _ _ _ (o_newName hv O1 (fun x h2 nx O2 => o_asks (d := d + 1) (w := 2) hv (by omega) (by omega) O2 (fun h3 O3 => ?_)))
    rw [n1]
    have eA : twH 2 (newN v (begH (g v 1) 10 g)) = loA v g := rfl
    rw [eA] at O3
    refine o_owner hv O3 (fun o h4 eo _ O4 => o_asks (d := d + 1) (w := 3) hv (by omega) (by omega) O4 (fun h5 O5 => ?_))
    have eB : twH 3 (obH v (loA v g)) = loB v g := rfl
    rw [eB] at O5
    refine T_m_lotTold_1_20 _ _ _ _ _ _ _ _ _ (o_number hv O5 (fun e h6 ee O6 => o_asks (d := d + 1) (w := 4) hv (by omega) (by omega) O6 (fun h7 O7 => ?_)))
    have eC : twH 4 (nuH 0 20 (loB v g)) = loC v g := rfl
    rw [eC] at O7
    refine o_number hv O7 (fun t h8 et O8 => ?_)
    have eD : nuH 0 30 (loC v g) = loD v g := rfl
    rw [eD] at et O8
    by_cases okD : loD v g 3 0 = 0
    · have h5' : h8 282 5 = 0 := by rw [SO_5 O8]; exact okD
      rw [okE_ok okD] at hy
      have okC : loC v g 3 0 = 0 := stk_back sk_nu okD
      have okC1 : nuH 0 20 (loB v g) 3 0 = 0 := stk_back (sk_tw (w := 4)) okC
      have okB1 : loB v g 3 0 = 0 := stk_back sk_nu okC1
      have okO : obH v (loA v g) 3 0 = 0 := stk_back (sk_tw (w := 3)) okB1
      have okA : loA v g 3 0 = 0 := stk_back (sk_ob (v := v)) okO
      have okN : newN v (begH (g v 1) 10 g) 3 0 = 0 := stk_back (sk_tw (w := 2)) okA
      have nx := nx okN
      have eo := eo okO
      have ee := ee okC1
      have et := et okD
      have vA : loA v g v = g v := (r3_v hv r3_tw).trans ((r3_v hv r3_newN).trans (r3_v hv r3_beg))
      have vD : loD v g v = g v := (r3_v hv r3_nu).trans ((r3_v hv r3_tw).trans ((r3_v hv r3_nu).trans ((r3_v hv r3_tw).trans ((r3_v hv r3_ob).trans vA))))
      rw [vA] at eo
      rw [← eo.1, ← ee.1, ← et.1] at hy
      refine ⟨fun _ => T_m_lotTold_2 _ _ _ _ _ _ _ _ _ _ _ ?_, fun q => absurd h5' q⟩
      rw [mmD_iff, mAdd_ok (by omega) (by omega)]
      refine ⟨by omega, T_m_lotTold_2_7 _ _ _ _ _ _ _ _ _ _ _ ?_⟩
      rw [mmD_iff, mMul_ok (by omega) (by omega)]
      refine ⟨by omega, T_m_lotTold_2_14 _ _ _ _ _ _ _ _ _ _ _ ?_⟩
      rw [mmD_iff, mMul_ok (by omega) (by omega), mAdd_ok (by omega) (by omega)]
      refine ⟨by omega, T_m_lotTold_2_23 _ _ _ _ _ _ _ _ _ _ _ ?_⟩
      rw [mmD_iff, mMul_ok (by omega) (by omega), mAdd_ok (by omega) (by omega)]
      refine ⟨by omega, T_m_lotTold_2_32 _ _ _ _ _ _ _ _ _ _ _ ?_⟩
      rw [mmD_iff, mMul_ok (by omega) (by omega), mAdd_ok (by omega) (by omega), mmD_iff, mAdd_ok (by omega) (by omega)]
      refine ⟨by omega, by omega, lot_clear ⟨by omega, lt⟩ (fun h9 f1 f2 f3 => ?_)⟩
      have T0 := (O8.2.1 okD).1
      have n8 : h8 313 1 = g v 1 := by rw [(SO_cn O8).2.1, vD]
      have n9 : h9 313 1 = g v 1 := by
        rw [f1 313 (by omega), mmS_row (by omega), mmS_row (by omega), mmS_row (by omega), mmS_row (by omega), mmS_row (by omega), mmS_row (by omega)]
        exact n8
      rw [n9, mAdd_ok (by omega) (by omega)]
      have f4 : h9 314 = mmS h8 314 (10 + g v 1) x 314 := by rw [f1 314 (by omega), mmS_row (by omega), mmS_row (by omega), mmS_row (by omega), mmS_row (by omega), mmS_row (by omega)]
      have f3' : h9 313 = h8 313 := by rw [f1 313 (by omega), mmS_row (by omega), mmS_row (by omega), mmS_row (by omega), mmS_row (by omega), mmS_row (by omega), mmS_row (by omega)]
      have fo : ∀ j, j ≠ 313 → j ≠ 314 → j ≠ 315 → j ≠ 316 → mmS h9 313 1 (g v 1 + 1) j = h8 j := fun j q1 q2 q3 q4 => by rw [mmS_row q1, f1 j q4, mmS_row q3, mmS_row q3, mmS_row q3, mmS_row q3, mmS_row q3, mmS_row q2]
      have T : Tz v (adL v (nmX (begH (g v 1) 10 g)) o e t (loD v g)) (mmS h9 313 1 (g v 1 + 1)) := by
        refine Tz_lot hv T0 (n := g v 1) (by rw [vD]) lt nx (by rw [vD]; exact eo.2) ee.2 et.2 fo (fun i => ?_) (fun i => ?_) (fun i => ?_) (fun a c a1 a2 c1 c2 => ?_)
        · rw [mmS_slot, f3']
        · rw [mmS_cell (by omega), f4, mmS_slot]
        · rw [mmS_cell (by omega), f1 315 (by omega), mmS_slot, mmS_slot, mmS_slot, mmS_slot, mmS_slot, mmS_cell (by omega)]
          by_cases z0 : i = 5 * g v 1
          · rw [if_neg (by omega), if_neg (by omega), if_neg (by omega), if_neg (by omega), if_pos z0, if_pos z0]
          · by_cases z1 : i = 5 * g v 1 + 1
            · rw [if_neg (by omega), if_neg (by omega), if_neg (by omega), if_pos z1, if_neg (by omega), if_pos z1]
            · by_cases z2 : i = 5 * g v 1 + 2
              · rw [if_neg (by omega), if_neg (by omega), if_pos z2, if_neg (by omega), if_neg (by omega), if_pos z2]
              · by_cases z3 : i = 5 * g v 1 + 3
                · rw [if_neg (by omega), if_pos z3, if_neg (by omega), if_neg (by omega), if_neg (by omega), if_pos (Or.inl z3)]
                · by_cases z4 : i = 5 * g v 1 + 4
                  · rw [if_pos z4, if_neg (by omega), if_neg (by omega), if_neg (by omega), if_pos (Or.inr z4)]
                  · rw [if_neg z4, if_neg z3, if_neg z2, if_neg z1, if_neg z0, if_neg z0, if_neg z1, if_neg z2, if_neg (by omega)]
        · rw [mmS_cell (by omega), f3 a c a1 a2 c1 c2, mmS_cell (by omega), mmS_cell (by omega), mmS_cell (by omega), mmS_cell (by omega), mmS_cell (by omega), mmS_cell (by omega)]
      have b8 : 0 ≤ loD v g v 1 := by rw [vD]; omega
      have l8 : loD v g v 1 < 10 := by rw [vD]; exact lt
      refine hy _ (SO_w (SO_put O8 okD (adL_row hv b8 (by omega) l8) (adL_row hv b8 (by omega) l8) (adL_row hv b8 (by omega) l8) (by rw [adL_row hv b8 (by omega) l8]) (fo 282 (by omega) (by omega) (by omega) (by omega)) (fo 283 (by omega) (by omega) (by omega) (by omega)) (fo 0 (by omega) (by omega) (by omega) (by omega)) ?_ T))
      intro j i q
      have q : ¬ ScM j i := q
      by_cases z3 : j = 313
      · subst z3
        rw [mmS_slot, if_neg (fun z => q (ScM_r _ _ (by omega))), f3']
      · by_cases z4 : j = 314
        · subst z4
          rw [mmS_cell (by omega), f4, mmS_slot, if_neg (fun z => q (ScM_r _ _ (by omega)))]
        · by_cases z5 : j = 315
          · subst z5
            have : ¬ i < 50 := fun z => q (ScM_r _ _ (by omega))
            rw [mmS_cell (by omega), f1 315 (by omega), mmS_slot, if_neg (by omega), mmS_slot, if_neg (by omega), mmS_slot, if_neg (by omega), mmS_slot, if_neg (by omega), mmS_slot, if_neg (by omega), mmS_cell (by omega)]
          · by_cases z6 : j = 316
            · subst z6
              have : ¬ i < 100 := fun z => q (ScM_r _ _ (by omega))
              rw [mmS_cell (by omega), f2 i (by omega), mmS_cell (by omega), mmS_cell (by omega), mmS_cell (by omega), mmS_cell (by omega), mmS_cell (by omega), mmS_cell (by omega)]
            · rw [fo j z3 z4 z5 z6]
    · have h5' : h8 282 5 ≠ 0 := by rw [SO_5 O8]; exact okD
      rw [okE_bad okD] at hy
      exact ⟨fun q => absurd q h5', fun _ => hy h8 (SO_w O8)⟩
  · have S1 := O1.1.1
    have k1 : Stk (begH (g v 1) 10 g) (loD v g) := ((((sk_newN (v := v)).tr sk_tw).tr ((sk_ob (v := v)).tr sk_tw)).tr (sk_nu.tr sk_tw)).tr sk_nu
    have bn : loD v g 3 0 ≠ 0 := by rw [(k1 bad).1]; exact bad
    rw [okE_bad bn]
    exact SO_gone hv O1 bad (Sc_nu hv (Sc_tw hv (Sc_nu hv (Sc_tw hv (Sc_ob hv (Sc_tw hv (Sc_newN hv S1))))))) (((r3_newN (v := v)).tr r3_tw).tr ((r3_ob (v := v)).tr (r3_tw.tr (r3_nu.tr (r3_tw.tr r3_nu))))) k1 (((fr_newN (v := v)).tr fr_tw).tr ((fr_ob (v := v)).tr (fr_tw.tr (fr_nu.tr (fr_tw.tr fr_nu)))))
end TK
