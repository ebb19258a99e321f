/-! ===== mm: a statement's steps, both sides, with or without a fault ===== -/
def SO (P : Prop) (v n0 z0 k : Int) (m g h : mmH) : Prop := (Sc v g ∧ RS P g h) ∧ (g 3 0 = 0 → Tz v g h ∧ g (v + 33) 1 ≤ g 3 4) ∧ Nc v g h ∧ ((h 0 0 = n0 ∧ h 0 1 = z0) ∧ Fr ScM m h) ∧ h 282 48 = k ∧ (0 ≤ h 282 50 ∧ h 282 50 ≤ 1600) ∧ ((0 ≤ h 313 3 ∧ h 313 3 ≤ 20) ∧ (0 ≤ h 313 4 ∧ h 313 4 ≤ 8))
section SS
variable {d : Nat} {P P' : Prop} {v n0 z0 k : Int} {m g g' h h' : mmH} {Q : Int → mmH → Prop}
theorem pl_rf {b : Bool} (hv : v = 5 ∨ v = 46) : Plain v g (rfH b g) := fun ok => by
  unfold rfH at ok ⊢
  split at ok
  · exact absurd ok (fl_bad (by omega))
  · next c => rw [if_neg c]; exact ⟨ok, by omega, rfl, fun _ => rfl⟩
theorem pl_tw {w : Int} (hv : v = 5 ∨ v = 46) (hS : Sc v g) : Plain v g (twH w g) := fun ok => by
  unfold twH at ok ⊢
  split at ok
  · next c => rw [if_pos c]; exact (pl_sk hv hS).tr (pl_ps hv (Sc_sk hv hS)) ok
  · exact absurd ok (fl_bad (by omega))
theorem pl_nu {lo hi : Int} (hv : v = 5 ∨ v = 46) (hS : Sc v g) : Plain v g (nuH lo hi g) := fun ok => by
  have n := nu_ok hS ok
  rw [n.1] at ok ⊢
  exact (pl_sk hv hS).tr (pl_nuT hv (Sc_sk hv hS)) ok
theorem pl_el {i x : Int} (hv : v = 5 ∨ v = 46) (hi : i = 5 ∨ i = 6) : Plain v g (mmS g 3 i x) := fun ok => by
  rw [mmS_slot, if_neg (by omega)] at ok
  refine ⟨ok, by rw [mmS_slot, if_neg (by omega)]; omega, by rw [mmS_cell (by omega)], fun j => by rw [mmS_cell (by omega)]⟩
theorem pl_nm (hv : v = 5 ∨ v = 46) (hS : Sc v g) : Plain v g (nmH g) := fun ok => by
  have S1 := Sc_nmS hv hS
  have p0 : Plain v g (nmS g) := (pl_sk hv hS).tr (pl_el hv (by omega))
  unfold nmH nmF at ok ⊢
  split at ok
  · next c => rw [if_pos c]; exact p0.tr (pl_ps hv S1) ok
  · split at ok
    · exact absurd ok (fl_bad (by omega))
    · split at ok <;> exact absurd ok (fl_bad (by omega))
theorem pl_newN (hv : v = 5 ∨ v = 46) (hS : Sc v g) : Plain v g (newN v g) := (pl_nm hv hS).tr (pl_rf hv)
theorem pl_ob (hv : v = 5 ∨ v = 46) (hS : Sc v g) : Plain v g (obH v g) := (pl_nm hv hS).tr (pl_rf hv)
theorem pl_lb (hv : v = 5 ∨ v = 46) (hS : Sc v g) : Plain v g (lbH v g) := (pl_nm hv hS).tr (pl_rf hv)
theorem pl_beg {n c : Int} (hv : v = 5 ∨ v = 46) (hS : Sc v g) : Plain v g (begH n c g) := fun ok => by
  unfold begH at ok ⊢
  by_cases q : n < c
  · rw [if_pos q] at ok ⊢
    exact pl_ps hv hS ok
  · rw [if_neg q] at ok
    exact absurd (stk_back sk_ps ok) (fl_bad (by omega))
theorem sk_beg {n c : Int} : Stk g (begH n c g) := by
  unfold begH
  split
  · exact sk_ps
  · exact sk_fl.tr sk_ps
theorem Sc_beg {n c : Int} (hv : v = 5 ∨ v = 46) (hS : Sc v g) : Sc v (begH n c g) := by
  unfold begH
  split
  · exact Sc_ps hv hS
  · exact Sc_ps hv (Sc_fl hv hS)
theorem Sc_newN (hv : v = 5 ∨ v = 46) (hS : Sc v g) : Sc v (newN v g) := Sc_rf hv (Sc_nm hv hS)
theorem Sc_ob (hv : v = 5 ∨ v = 46) (hS : Sc v g) : Sc v (obH v g) := Sc_rf hv (Sc_nm hv hS)
theorem Sc_lb (hv : v = 5 ∨ v = 46) (hS : Sc v g) : Sc v (lbH v g) := Sc_rf hv (Sc_nm hv hS)
theorem Nc_r3 (hv : v = 5 ∨ v = 46) (h3 : R3 g g') (hN : Nc v g h) : Nc v g' h := by
  unfold Nc
  rw [h3 v (by omega), h3 (v + 1) (by omega), h3 (v + 2) (by omega), h3 (v + 3) (by omega)]
  exact hN
theorem Nc_ms (hN : Nc v g h) (hF : Fr MsK h h') : Nc v g h' := by
  unfold Nc
  have e : ∀ k, k ≠ 282 → h' k = h k := fun k q => funext fun i => hF k i (by unfold MsK; omega)
  rw [e 313 (by omega), e 314 (by omega)]
  exact hN
theorem SO_sc (hv : v = 5 ∨ v = 46) (hO : SO P v n0 z0 k m g h) (hS : Sc v g') (hR : RS P' g' h') (hF : Fr MsK h h') (h3 : R3 g g') (hk : Stk g g') (hp : Plain v g g') : SO P' v n0 z0 k m g' h' := by
  obtain ⟨⟨o1, o2⟩, o3, o4, ⟨o5, o6⟩, o7, o8, o9⟩ := hO
  have f : ∀ k i, ¬ MsK k i → h' k i = h k i := hF
  refine ⟨⟨hS, hR⟩, fun ok => ?_, Nc_ms (Nc_r3 hv h3 o4) hF, ⟨⟨?_, ?_⟩, o6.tr (hF.mono (fun k i q => ?_))⟩, ?_, ?_, ?_⟩
  · obtain ⟨p0, p1, p2, p3⟩ := hp ok
    exact ⟨Tz_sc hv h3 hF (o3 p0).1, by have := (o3 p0).2; omega⟩
  · rw [f 0 0 (by unfold MsK; omega)]; exact o5.1
  · rw [f 0 1 (by unfold MsK; omega)]; exact o5.2
  · unfold MsK at q; unfold ScM; omega
  · rw [f 282 48 (by unfold MsK; omega)]; exact o7
  · rw [f 282 50 (by unfold MsK; omega)]; exact o8
  · rw [f 313 3 (by unfold MsK; omega), f 313 4 (by unfold MsK; omega)]; exact o9
/-- behind a fault the class goes on alone -/
theorem SO_gone (hv : v = 5 ∨ v = 46) (hO : SO P v n0 z0 k m g h) (bad : g 3 0 ≠ 0) (hS : Sc v g') (h3 : R3 g g') (hk : Stk g g') (hF : Fr (ScK v) g g') : SO P' v n0 z0 k m g' h := by
  obtain ⟨⟨o1, o2⟩, o3, o4, o5, o7, o8, o9⟩ := hO
  exact ⟨⟨hS, RS_gone hv o2 bad hk hF⟩, fun ok => absurd ok (by rw [(hk bad).1]; exact bad), Nc_r3 hv h3 o4, o5, o7, o8, o9⟩
theorem o_asks {w : Int} (hv : v = 5 ∨ v = 46) (k1 : 0 ≤ w) (k2 : w < 29) (hO : SO P v n0 z0 k m g h) (hy : ∀ h', SO P v n0 z0 k m (twH w g) h' → Q 0 h') : qC tFM (d + 4) k_m_asks [282, 284 + w] h Q :=
  q_m_asks hv k1 k2 hO.1.1 hO.1.2 (Fr.rf (h := h)) (fun h' R F => hy h' (SO_sc hv hO (Sc_tw hv hO.1.1) R F r3_tw sk_tw (pl_tw hv hO.1.1)))
theorem o_asksSign {a : Int} (hv : v = 5 ∨ v = 46) (ha : a ≠ -1) (hO : SO P v n0 z0 k m g h) (hy : ∀ h', SO P v n0 z0 k m (tsH a g) h' → Q 0 h') : qC tFM (d + 3) k_m_asksSign [282, a] h Q :=
  q_m_asksSign hv ha hO.1.1 hO.1.2 (Fr.rf (h := h)) (fun h' R F => hy h' (SO_sc hv hO (Sc_ts hv ha hO.1.1) R F r3_ts sk_ts (pl_ts hv hO.1.1)))
theorem o_number {lo hi : Int} (hv : v = 5 ∨ v = 46) (hO : SO P v n0 z0 k m g h) (hy : ∀ x h', (nuH lo hi g 3 0 = 0 → x = nuV (skH g) ∧ lo ≤ x ∧ x ≤ hi) → SO P v n0 z0 k m (nuH lo hi g) h' → Q x h') : qC tFM (d + 2) k_m_number [282, lo, hi] h Q :=
  q_m_number hv hO.1.1 hO.1.2 (Fr.rf (h := h)) (fun x h' e R F => hy x h' (fun ok => by
    have n := nu_ok hO.1.1 ok
    rw [e ok]
    exact ⟨rfl, n.2.2.1, n.2.2.2.1⟩) (SO_sc hv hO (Sc_nu hv hO.1.1) R F r3_nu sk_nu (pl_nu hv hO.1.1)))
theorem o_newName (hv : v = 5 ∨ v = 46) (hO : SO P v n0 z0 k m g h) (hy : ∀ x h', (newN v g 3 0 = 0 → nmR (nmX g) x) → SO True v n0 z0 k m (newN v g) h' → Q x h') : qC tFM (d + 5) k_m_newName [282] h Q :=
  q_m_newName hv hO.1.1 hO.1.2 hO.2.2.1 (Fr.rf (h := h)) (fun x h' e R _ F => hy x h' e (SO_sc hv hO (Sc_newN hv hO.1.1) R F r3_newN sk_newN (pl_newN hv hO.1.1)))
theorem o_owner (hv : v = 5 ∨ v = 46) (hO : SO P v n0 z0 k m g h) (hy : ∀ x h', (obH v g 3 0 = 0 → x = obX v g ∧ 0 ≤ x ∧ x < g v 0) → (obH v g 3 0 ≠ 0 → x = 0) → SO True v n0 z0 k m (obH v g) h' → Q x h') : qC tFM (d + 5) k_m_oneOf [282, 0] h Q :=
  q_m_oneOf (a := 0) hv (Or.inl rfl) hO.1.1 hO.1.2 hO.2.2.1 (Fr.rf (h := h)) (fun x h' e1 e2 R _ F => hy x h' e1 e2 (SO_sc hv hO (Sc_ob hv hO.1.1) R F r3_ob sk_ob (pl_ob hv hO.1.1)))
theorem o_lot (hv : v = 5 ∨ v = 46) (hO : SO P v n0 z0 k m g h) (hy : ∀ x h', (lbH v g 3 0 = 0 → x = lbX v g ∧ 0 ≤ x ∧ x < g v 1) → (lbH v g 3 0 ≠ 0 → x = 0) → SO True v n0 z0 k m (lbH v g) h' → Q x h') : qC tFM (d + 5) k_m_oneOf [282, 1] h Q :=
  q_m_oneOf (a := 1) hv (Or.inr rfl) hO.1.1 hO.1.2 hO.2.2.1 (Fr.rf (h := h)) (fun x h' e1 e2 R _ F => hy x h' e1 e2 (SO_sc hv hO (Sc_lb hv hO.1.1) R F r3_lb sk_lb (pl_lb hv hO.1.1)))
theorem o_fail {w p p' : Int} (hv : v = 5 ∨ v = 46) (hw : w ≠ 0) (hO : SO P v n0 z0 k m g h) (hp : g 3 0 = 0 → p' = p) (hy : ∀ h', SO P v n0 z0 k m (flH w p g) h' → Q 0 h') : qC tFM (d + 1) k_m_fail [282, w, p'] h Q :=
  q_m_fail hv hO.1.2 (Fr.rf (h := h)) hw hp (fun h' R F => hy h' (SO_sc hv hO (Sc_fl hv hO.1.1) R F r3_fl sk_fl (fun ok => absurd ok (fl_bad hw))))
theorem SO_5 (hO : SO P v n0 z0 k m g h) : h 282 5 = g 3 0 := hO.1.2.1
theorem SO_38 (hO : SO True v n0 z0 k m g h) (ok : g 3 0 = 0) : h 282 38 = g 3 5 := (hO.1.2.2.2.2.2 ok).2.2 trivial
/-- full: the fault at the statement's first byte; g stands at its word -/
theorem o_isFull {a n c p : Int} (hv : v = 5 ∨ v = 46) (ok : g 3 0 = 0) (hO : SO P v n0 z0 k m (psH g) h) (ha : 0 ≤ a ∧ a ≤ 4) (hn : h 313 a = n) (hc : n ≤ c) (hp : p = g 3 4) (hy : ∀ h', begH n c g 3 0 = 0 → SO P v n0 z0 k m (begH n c g) h' → Q 0 h') (h2 : ∀ h', begH n c g 3 0 ≠ 0 → SO P v n0 z0 k m (begH n c g) h' → Q 1 h') : qC tFM (d + 2) k_m_isFull [282, a, c, p] h Q := by
  have okp : psH g 3 0 = 0 := by unfold psH; rw [mmS_slot, if_neg (by omega), mmS_slot, if_neg (by omega)]; exact ok
  have h5 : h 282 5 = 0 := by rw [SO_5 hO]; exact okp
  refine qC_intro (T_m_isFull_0 _ _ _ _ _ _ _ _ ⟨fun q => absurd h5 q, fun _ => ?_⟩)
  rw [mmD_iff, hn]
  refine ⟨by omega, fun q => ⟨fun _ => ?_, fun q2 => absurd h5 q2⟩, fun q => ?_⟩
  · have e : begH n c g = psH g := by unfold begH; rw [if_pos (by omega)]
    rw [e] at hy
    exact hy h okp hO
  · have e : begH n c g = psH (flH 5 (g 3 4) g) := by unfold begH; rw [if_neg (by omega)]
    rw [e] at h2
    refine o_fail hv (by omega) hO (fun _ => hp) (fun h' O => ?_)
    have b0 : flH 5 (g 3 4) (psH g) 3 0 ≠ 0 := fl_bad (by omega)
    have b1 : psH (flH 5 (g 3 4) g) 3 0 ≠ 0 := by
      rw [((sk_ps (g := flH 5 (g 3 4) g)) (fl_bad (by omega))).1]
      exact fl_bad (by omega)
    have b5 : h' 282 5 ≠ 0 := by rw [SO_5 O]; exact b0
    refine ⟨fun q2 => absurd q2 b5, fun _ => h2 h' b1 ?_⟩
    have e0 : ∀ x : mmH, x 3 0 = 0 → flH 5 (g 3 4) x = mmS (mmS x 3 0 5) 3 1 (g 3 4) := fun x q => by unfold flH; rw [if_neg (by omega)]
    have e1 : psH (mmS (mmS g 3 0 5) 3 1 (g 3 4)) = mmS (mmS (psH g) 3 0 5) 3 1 (g 3 4) := by
      have el : leV (mmS (mmS g 3 0 5) 3 1 (g 3 4)) = leV g := by
        unfold leV
        rw [mmS_row (by omega), mmS_row (by omega), mmS_slot, if_neg (by omega), mmS_slot, if_neg (by omega), mmS_slot, if_neg (by omega), mmS_slot, if_neg (by omega)]
      unfold psH
      rw [el]
      funext a i
      by_cases q3 : a = 3
      · subst q3
        simp only [mmS_slot]
        by_cases i0 : i = 0
        · subst i0; simp
        · by_cases i1 : i = 1
          · subst i1; simp
          · simp [i0, i1]
      · rw [mmS_cell q3, mmS_cell q3, mmS_cell q3, mmS_cell q3, mmS_cell q3, mmS_cell q3, mmS_cell q3, mmS_cell q3]
    rw [e0 _ ok, e1, ← e0 _ okp]
    exact O
end SS
