/-! ===== mm: laws told ===== -/
/-- between a law's steps -/
def J (v n0 z0 : Int) (M G H : mmH) : Prop := RW v n0 z0 3 0 0 M G H [] [] ∨ BD v n0 z0 1600 M G H
/-- behind a statement's body: like SO, up to blanks -/
def SE (v n0 z0 k : Int) (m g h : mmH) : Prop := ∃ g0, (Sc v g0 ∧ skH g0 = skH g ∧ RS False g0 h) ∧ Sc v g ∧ (g 3 0 = 0 → Tz v g h ∧ g (v + 33) 1 ≤ g 3 4) ∧ Nc v g h ∧ ((h 0 0 = n0 ∧ h 0 1 = z0) ∧ Fr ScM m h) ∧ h 282 48 = k ∧ (0 ≤ h 282 50 ∧ h 282 50 ≤ 1600) ∧ ((0 ≤ h 313 3 ∧ h 313 3 ≤ 20) ∧ (0 ≤ h 313 4 ∧ h 313 4 ≤ 8))
section LW
variable {d e : Nat} {P P' : Prop} {v n0 z0 k : Int} {m g g' h h' M G H : mmH} {Q : Int → mmH → Prop}
theorem SO_SE (hO : SO False v n0 z0 k m g h) : SE v n0 z0 k m g h := ⟨g, ⟨hO.1.1, rfl, hO.1.2⟩, hO.1.1, hO.2⟩
theorem wd_len (hS : Sc v g) (hw : wdV g = 17 ∨ wdV g = 18) : g 3 4 + 3 ≤ psH g 3 4 := by
  have hl := leV_ge hS
  have key : 3 ≤ leV g - g 3 4 := by
    rcases hw with hw | hw
    · have := ((ltrs_iff _ _ _ _).mp ((wd_iff hS (by omega) (by omega)).mp hw).2).1
      have e : (wlL.getD (17 : Int).toNat []).length = 4 := rfl
      omega
    · have := ((ltrs_iff _ _ _ _).mp ((wd_iff hS (by omega) (by omega)).mp hw).2).1
      have e : (wlL.getD (18 : Int).toNat []).length = 3 := rfl
      omega
  unfold psH
  rw [mmS_slot, if_neg (by omega), mmS_slot, if_pos rfl]
  omega
theorem RW_wr {kk i x : Int} (hk : kk ≠ 0 ∧ kk ≠ 282 ∧ kk ≠ 283 ∧ kk ≠ 322 ∧ kk ≠ 323) (hR : RW v n0 z0 3 0 0 M G H [] []) : RW v n0 z0 3 0 0 (mmS H kk i x) G (mmS H kk i x) [] [] := by
  obtain ⟨⟨a1, a2, a3⟩, ⟨a4, a5⟩, ⟨a6, a7⟩, ⟨a9, a10⟩, a11, ⟨a12, a13⟩, a14, a15⟩ := hR
  have z : ∀ j, j ≠ kk → mmS H kk i x j = H j := fun j q => mmS_row q
  have z282 := z 282 (by omega)
  refine ⟨⟨a1, a2, RB_out a3 (fun j c q => congrFun (z j (by omega)) c)⟩, ⟨⟨by rw [z 0 (by omega)]; exact a4.1, by rw [z 0 (by omega)]; exact a4.2⟩, Fr.rf⟩, ⟨by rw [z282]; exact a6, trivial⟩, ⟨by rw [z282]; exact a9, by rw [z282]; exact a10⟩, a11, ⟨by rw [z282]; exact a12, a13⟩, fun j j1 j2 => by rw [z 322 (by omega)]; exact a14 j j1 j2, a15⟩
theorem BD_wr {kk i x c : Int} (hk : kk ≠ 0 ∧ kk ≠ 282 ∧ kk ≠ 283) (hB : BD v n0 z0 c M G H) : BD v n0 z0 c (mmS H kk i x) G (mmS H kk i x) := by
  obtain ⟨⟨a1, a2, a3⟩, ⟨a4, a5⟩, a6, a7⟩ := hB
  have z : ∀ j, j ≠ kk → mmS H kk i x j = H j := fun j q => mmS_row q
  have z282 := z 282 (by omega)
  exact ⟨⟨a1, a2, RS_out a3 (fun _ _ _ => rfl) (fun j c q => congrFun (z j (by omega)) c)⟩, ⟨⟨by rw [z 0 (by omega)]; exact a4.1, by rw [z 0 (by omega)]; exact a4.2⟩, Fr.rf⟩, by rw [z282]; exact a6, by rw [z282]; exact a7⟩
theorem J_wr {kk i x : Int} (hk : kk ≠ 0 ∧ kk ≠ 282 ∧ kk ≠ 283 ∧ kk ≠ 322 ∧ kk ≠ 323) (hJ : J v n0 z0 M G H) : J v n0 z0 (mmS H kk i x) G (mmS H kk i x) := by
  rcases hJ with hR | hB
  · exact Or.inl (RW_wr hk hR)
  · exact Or.inr (BD_wr ⟨hk.1, hk.2.1, hk.2.2.1⟩ hB)
theorem J_clear (hJ : J v n0 z0 M G H) : J v n0 z0 M G (mmS (mmS (mmS H 282 52 0) 282 53 0) 282 57 0) := by
  rcases hJ with hR | hB
  · have c1 : H 282 52 = 0 := hR.2.2.1.1
    have c2 : H 282 53 = 0 := hR.2.2.2.1.1
    have c3 : H 282 57 = 0 := hR.2.2.2.1.2
    have e1 : mmS H 282 52 0 = H := by rw [← c1]; exact mmS_id H 282 52
    have e2 : mmS H 282 53 0 = H := by rw [← c2]; exact mmS_id H 282 53
    have e3 : mmS H 282 57 0 = H := by rw [← c3]; exact mmS_id H 282 57
    rw [e1, e2, e3]
    exact Or.inl hR
  · obtain ⟨⟨a1, a2, a3⟩, ⟨a4, a5⟩, a6, a7⟩ := hB
    have z : ∀ j i, ¬ (j = 282 ∧ (i = 52 ∨ i = 53 ∨ i = 57)) → mmS (mmS (mmS H 282 52 0) 282 53 0) 282 57 0 j i = H j i := fun j i q => by
      by_cases q2 : j = 282
      · subst q2; rw [mmS_slot, if_neg (by omega), mmS_slot, if_neg (by omega), mmS_slot, if_neg (by omega)]
      · rw [mmS_cell q2, mmS_cell q2, mmS_cell q2]
    exact Or.inr ⟨⟨a1, a2, RS_out a3 (fun _ _ _ => rfl) (fun j c q => z j c (by omega))⟩, ⟨⟨by rw [z 0 0 (by omega)]; exact a4.1, by rw [z 0 1 (by omega)]; exact a4.2⟩, ((a5.put (Or.inr (by omega))).put (Or.inr (by omega))).put (Or.inr (by omega))⟩, by rw [z 282 50 (by omega)]; exact a6, by rw [z 282 50 (by omega)]; exact a7⟩
theorem J_5 (hJ : J v n0 z0 M G H) : H 282 5 = G 3 0 := by
  rcases hJ with hR | hB
  · rw [RW_5 hR]; exact hR.1.1.symm
  · exact hB.1.2.2.1
theorem J_nm (hJ : J v n0 z0 M G H) : (H 0 0 = n0 ∧ H 0 1 = z0) ∧ Fr RwK M H := by
  rcases hJ with hR | hB
  · exact hR.2.1
  · exact hB.2.1
theorem J_sums (hv : v = 5 ∨ v = 46) (hJ : J v n0 z0 M G H) (hy : ∀ h', J v n0 z0 M (smL v 7 0 G) h' → Q 0 h') : qC tFM (e + 6) k_m_sumsTold [282] H Q := by
  rcases hJ with hR | hB
  · exact q_m_sums hv (by omega) ⟨by show (0 : Int) ≠ 1; omega, by show (0 : Int) ≠ 2; omega, by show (0 : Int) ≠ 3; omega, by show (0 : Int) ≠ 4; omega⟩ hR (fun h' R => hy h' (Or.inl R)) (fun h' B => hy h' (Or.inr (BD_le B (by omega))))
  · have b5 := BD_5 hB
    refine qC_intro (T_m_sumsTold_0 _ _ _ _ _ ?_)
    have B1 : BD v n0 z0 1600 M G (mmS H 282 57 (H 282 52)) := BD_base hB
    have fin : ∀ x, qB tFM (e + 5) k_m_sumsTold (H 0 0) (H 0 1) Q 4 [(3, 282), (1, H 282 57), (1, x)] [] (mmS H 282 57 (H 282 52)) := fun x => T_m_sumsTold_4 _ _ _ _ _ _ _ ⟨fun _ => hy _ (Or.inr (BD_gone hv (BD_base B1) (sk_sm 7 0 _) (fr_sm 7 0 _) (Sc_sm hv 7 0 _ B1.1.2.1))), fun z => absurd (BD_5 B1) z⟩
    exact T_m_sumsTold_1 _ _ _ _ _ _ _ ⟨fun _ => fin _, fun _ => ⟨fun _ => fin _, fun z => absurd (BD_5 B1) z⟩⟩
theorem J_asks {w : Int} (hv : v = 5 ∨ v = 46) (k1 : 0 ≤ w) (k2 : w < 29) (hJ : J v n0 z0 M G H) (hy : ∀ h', J v n0 z0 M (twH w G) h' → Q 0 h') : qC tFM (d + 4) k_m_asks [282, 284 + w] H Q := by
  rcases hJ with hR | hB
  · exact w_asks hv k1 k2 hR (fun h' _ R => hy h' (Or.inl R)) (fun h' B => hy h' (Or.inr (BD_le B (by omega))))
  · refine qC_intro (T_m_asks_0 _ _ _ _ _ _ ⟨fun _ => hy H (Or.inr (BD_gone hv hB sk_tw fr_tw (Sc_tw hv hB.1.2.1))), fun z => absurd (BD_5 hB) z⟩)
theorem J_bad (hv : v = 5 ∨ v = 46) (hJ : J v n0 z0 M G H) (bad : G 3 0 ≠ 0) : J v n0 z0 M (teF v (fcL v 7 0) G) H := by
  rcases hJ with hR | hB
  · exact absurd hR.1.1 bad
  · exact Or.inr (BD_gone hv hB (sk_te (sk_fc 7 0)) (fr_te (fr_fc 7 0)) (Sc_te hv (Sc_fc hv 7 0) hB.1.2.1))
theorem J_test (hv : v = 5 ∨ v = 46) (hJ : J v n0 z0 M G H) (ok : G 3 0 = 0) (hy : ∀ h', J v n0 z0 M (teF v (fcL v 7 0) G) h' → Q 0 h') : qC tFM (e + 9) k_m_test [282] H Q := by
  rcases hJ with hR | hB
  · exact q_m_test hv (by omega) hR (fun h' R => hy h' (Or.inl R)) (fun h' B => hy h' (Or.inr (BD_le B (by omega))))
  · exact absurd ok hB.1.1
/-- from the value on: the test, the law's end -/
theorem law_4 {n v1 v2 : Int} (hv : v = 5 ∨ v = 46) (hn : 0 ≤ n ∧ n < 8) (hJ : J v n0 z0 M G H) (hM : Fr RwK h M) (h4 : H 313 4 = n)
    (hy : ∀ h6 h5, J v n0 z0 h5 (teF v (fcL v 7 0) (twH 19 G)) h6 → h5 = mmS H 325 n (H 282 50) → Q 0 (mmS (mmS h6 326 n (h6 282 50)) 313 4 (n + 1))) : qB tFM (e + 9) k_m_lawTold n0 z0 Q 4 [(3, 282), (1, v1), (1, v2), (1, n)] [] H := by
  refine T_m_lawTold_4 _ _ _ _ _ _ _ _ ?_
  rw [mmD_iff]
  refine ⟨by omega, J_asks (w := 19) hv (by omega) (by omega) (J_wr (i := n) (x := H 282 50) (kk := 325) (by omega) hJ) (fun h5 J5 => ?_)⟩
  have J6 := J_clear J5
  have fin : ∀ h6, J v n0 z0 (mmS H 325 n (H 282 50)) (teF v (fcL v 7 0) (twH 19 G)) h6 → qB tFM (e + 9) k_m_lawTold n0 z0 Q 5 [(3, 282), (1, v1), (1, v2), (1, n)] [] h6 := fun h6 J7 => by
    have e4 : h6 313 4 = n := by
      have := (J_nm J7).2 313 4 (by unfold RwK MsK; omega)
      rw [this, mmS_cell (by omega)]
      exact h4
    refine T_m_lawTold_5 _ _ _ _ _ _ _ _ ?_
    rw [mmD_iff, e4, mAdd_ok (by omega) (by omega)]
    exact ⟨by omega, hy h6 _ J7 rfl⟩
  refine qC_intro (T_m_clears_0 _ _ _ _ _ ?_)
  by_cases ok : twH 19 G 3 0 = 0
  · exact ⟨fun z => absurd (by rw [J_5 J6]; exact ok) z, fun _ => J_test hv J6 ok (fun h' J7 => fin h' J7)⟩
  · exact ⟨fun _ => fin _ (J_bad hv J6 ok), fun z => absurd (by rw [J_5 J6]; exact ok) z⟩
end LW
