/-! ===== mm: a town read, both sides ===== -/
section RD
variable {d e : Nat} {P P' : Prop} {v n0 z0 k : Int} {m g g' h h' : mmH} {Q : Int → mmH → Prop}
theorem o_look (hv : v = 5 ∨ v = 46) (ok : g 3 0 = 0) (hO : SO P v n0 z0 k m g h) (hy : ∀ h', SO P v n0 z0 k m (skH g) h' → Q (hrV (skH g)) h') : qC tFM (d + 1) k_m_look [282] h Q :=
  q_m_look hv hO.1.1 ok hO.1.2 (Fr.rf (h := h)) (fun h' R F => hy h' (SO_sc hv hO (Sc_sk hv hO.1.1) R F r3_sk sk_sk (pl_sk hv hO.1.1)))
theorem lp_stop (hS : Sc v g) (j : Nat) (hq : ¬ (skH g 3 0 = 0 ∧ skH g 3 4 < skH g 3 3)) : clsH (lpH v j g) = skH g ∧ cnH v j g = 0 := by
  have hk : skH (skH g) = skH g := skd_id (skd_sk hS.2.1.2.1)
  cases j with
  | zero =>
    refine ⟨?_, rfl⟩
    show clsH g = skH g
    unfold clsH
    rw [if_neg hq]
  | succ j =>
    refine ⟨?_, ?_⟩
    · show clsH (if skH g 3 0 = 0 ∧ skH g 3 4 < skH g 3 3 then lpH v j (stmF v (skH g)) else skH g) = _
      rw [if_neg hq]
      unfold clsH
      rw [hk, if_neg hq]
    · show (if skH g 3 0 = 0 ∧ skH g 3 4 < skH g 3 3 then 1 + cnH v j (stmF v (skH g)) else 0) = 0
      rw [if_neg hq]
theorem lp_go (j : Nat) (hq : skH g 3 0 = 0 ∧ skH g 3 4 < skH g 3 3) : lpH v (j + 1) g = lpH v j (stmF v (skH g)) ∧ cnH v (j + 1) g = 1 + cnH v j (stmF v (skH g)) := by
  refine ⟨?_, ?_⟩
  · show (if skH g 3 0 = 0 ∧ skH g 3 4 < skH g 3 3 then lpH v j (stmF v (skH g)) else skH g) = _
    rw [if_pos hq]
  · show (if skH g 3 0 = 0 ∧ skH g 3 4 < skH g 3 3 then 1 + cnH v j (stmF v (skH g)) else 0) = _
    rw [if_pos hq]
theorem hr_end (hS : Sc v g) : hrV g = -1 ↔ ¬ (g 3 4 < g 3 3) := by
  unfold hrV
  obtain ⟨-, ⟨b1, b2, b3⟩, b4, -⟩ := hS
  split
  · next q =>
    have := b4 (g 3 4) (by omega) (by omega)
    exact ⟨fun z => by omega, fun z => absurd q z⟩
  · next q => exact ⟨fun _ => q, fun _ => rfl⟩
theorem t_loop (hv : v = 5 ∨ v = 46) {v1 : Int} : ∀ (j : Nat) (k : Int) (P : Prop) (g h : mmH), k + j = 80 → 0 ≤ k → SO P v n0 z0 k m g h → (∀ h', SO False v n0 z0 (k + cnH v j g) m (clsH (lpH v j g)) h' → qB tFM (e + 11) k_m_town n0 z0 Q 3 [(3, 282), (1, v1)] [] h') → qB tFM (e + 11) k_m_town n0 z0 Q 2 [(3, 282), (1, v1)] [] h := by
  intro j
  induction j with
  | zero =>
    intro k P g h hk k0 hO hy
    have Sg := hO.1.1
    refine T_m_town_2 _ _ _ _ _ _ ⟨fun q => ?_, fun q => ?_⟩
    · have bad : g 3 0 ≠ 0 := by rw [← SO_5 hO]; exact q
      obtain ⟨s1, s2⟩ := lp_stop Sg 0 (fun z => bad (by rw [← skH_30 g]; exact z.1))
      rw [s1, s2, Int.add_zero] at hy
      exact hy h (SO_gone hv hO bad (Sc_sk hv Sg) r3_sk sk_sk fr_sk)
    · have ok : g 3 0 = 0 := by rw [← SO_5 hO]; exact Decidable.of_not_not q
      have ok2 : skH g 3 0 = 0 := by rw [skH_30]; exact ok
      refine qC_le (d := e + 1) (by omega) (o_look hv ok hO (fun h1 O1 => ⟨fun q2 => ?_, fun q2 => ?_⟩))
      · obtain ⟨s1, s2⟩ := lp_stop Sg 0 (fun z => (hr_end (Sc_sk hv Sg)).mp q2 z.2)
        rw [s1, s2, Int.add_zero] at hy
        exact hy h1 (SO_f O1)
      · have hq : skH g 3 4 < skH g 3 3 := Decidable.of_not_not (fun z => q2 ((hr_end (Sc_sk hv Sg)).mpr z))
        have ec : clsH (lpH v 0 g) = flH 5 (skH g 3 4) (skH g) := by
          show clsH g = _
          unfold clsH
          rw [if_pos ⟨ok2, hq⟩]
        have en : k + cnH v 0 g = k := Int.add_zero k
        rw [ec, en] at hy
        refine qC_intro (T_m_statementTold_0 _ _ _ _ _ ⟨fun z => absurd (show h1 282 48 = 80 by rw [O1.2.2.2.2.1]; omega) z, fun _ => ?_⟩)
        refine qC_le (d := e + 1) (by omega) (o_fail hv (by omega) O1 (fun _ => (O1.1.2.2.2.2.2 ok2).1) (fun h2 O2 => ?_))
        exact T_m_town_2 _ _ _ _ _ _ ⟨fun _ => hy h2 (SO_f O2), fun z => absurd (show h2 282 5 ≠ 0 by rw [SO_5 O2]; exact fl_bad (by omega)) z⟩
  | succ j ih =>
    intro k P g h hk k0 hO hy
    have Sg := hO.1.1
    refine T_m_town_2 _ _ _ _ _ _ ⟨fun q => ?_, fun q => ?_⟩
    · have bad : g 3 0 ≠ 0 := by rw [← SO_5 hO]; exact q
      obtain ⟨s1, s2⟩ := lp_stop Sg (j + 1) (fun z => bad (by rw [← skH_30 g]; exact z.1))
      rw [s1, s2, Int.add_zero] at hy
      exact hy h (SO_gone hv hO bad (Sc_sk hv Sg) r3_sk sk_sk fr_sk)
    · have ok : g 3 0 = 0 := by rw [← SO_5 hO]; exact Decidable.of_not_not q
      have ok2 : skH g 3 0 = 0 := by rw [skH_30]; exact ok
      refine qC_le (d := e + 1) (by omega) (o_look hv ok hO (fun h1 O1 => ⟨fun q2 => ?_, fun q2 => ?_⟩))
      · obtain ⟨s1, s2⟩ := lp_stop Sg (j + 1) (fun z => (hr_end (Sc_sk hv Sg)).mp q2 z.2)
        rw [s1, s2, Int.add_zero] at hy
        exact hy h1 (SO_f O1)
      · have hq : skH g 3 4 < skH g 3 3 := Decidable.of_not_not (fun z => q2 ((hr_end (Sc_sk hv Sg)).mpr z))
        obtain ⟨s1, s2⟩ := lp_go (v := v) j ⟨ok2, hq⟩
        rw [s1, s2] at hy
        refine q_stm hv ok2 (skd_id (skd_sk Sg.2.1.2.1)) ⟨k0, by omega⟩ O1 (fun h2 O2 => ?_)
        refine ih (k + 1) False _ h2 (by omega) (by omega) O2 (fun h3 O3 => hy h3 ?_)
        rw [show k + (1 + cnH v j (stmF v (skH g))) = k + 1 + cnH v j (stmF v (skH g)) by omega]
        exact O3
end RD
