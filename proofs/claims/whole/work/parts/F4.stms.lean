/-! ===== mm: a statement told, both sides ===== -/
section ST
variable {d e : Nat} {P P' : Prop} {v n0 z0 k : Int} {m g g' h h' : mmH} {Q : Int → mmH → Prop}
theorem o_takes {w : Int} (hv : v = 5 ∨ v = 46) (k1 : 0 ≤ w) (k2 : w < 29) (ok : g 3 0 = 0) (hs : skH g = g) (hO : SO P v n0 z0 k m g h) (hn : ∀ h', wdV g ≠ w → SO P v n0 z0 k m g h' → Q 0 h') (hy : ∀ h', wdV g = w → SO P v n0 z0 k m (psH g) h' → Q 1 h') : qC tFM (d + 3) k_m_takes [282, 284 + w] h Q := by
  refine q_m_takes hv k1 k2 hO.1.1 hO.1.2 (Fr.rf (h := h)) (fun h' nq R F => ?_) (fun h' _ hw R F => ?_)
  · rw [hs] at nq R
    exact hn h' (fun z => nq ⟨ok, z⟩) (SO_sc hv hO hO.1.1 R F R3.rf Stk.rf (fun ok => ⟨ok, by omega, rfl, fun _ => rfl⟩))
  · rw [hs] at hw R
    exact hy h' hw (SO_sc hv hO (Sc_ps hv hO.1.1) R F r3_ps sk_ps (pl_ps hv hO.1.1))
theorem SO_f (hO : SO P v n0 z0 k m g h) : SO False v n0 z0 k m g h := ⟨⟨hO.1.1, hO.1.2.1, hO.1.2.2.1, hO.1.2.2.2.1, hO.1.2.2.2.2.1, fun c => ⟨(hO.1.2.2.2.2.2 c).1, (hO.1.2.2.2.2.2 c).2.1, fun q => q.elim⟩⟩, hO.2⟩
theorem SO_48 (hv : v = 5 ∨ v = 46) (hO : SO P v n0 z0 k m g h) (k0 : 0 ≤ k ∧ k < 80) : SO P v n0 z0 (k + 1) m g (mmS h 282 48 (mAdd (h 282 48) 1)) := by
  obtain ⟨⟨o1, o2⟩, o3, o4, ⟨o5, o6⟩, o7, o8, o9⟩ := hO
  have e48 : mAdd (h 282 48) 1 = k + 1 := by rw [o7, mAdd_ok (by omega) (by omega)]
  rw [e48]
  have R : ∀ j, j ≠ 282 → mmS h 282 48 (k + 1) j = h j := fun j q => mmS_row q
  have C : ∀ i, mmS h 282 48 (k + 1) 282 i = if i = 48 then k + 1 else h 282 i := fun i => mmS_slot ..
  have F : Fr ScM h (mmS h 282 48 (k + 1)) := Fr.rf.put (by unfold ScM; omega)
  generalize mmS h 282 48 (k + 1) = X at R C F
  refine ⟨⟨o1, RS_out o2 (fun _ _ _ => rfl) (fun j i q => ?_)⟩, fun ok => ⟨Tz_fr hv R3.rf (fun j q => R j q) (by rw [C, if_neg (by omega)]) (o3 ok).1, (o3 ok).2⟩, ?_, ⟨?_, o6.tr F⟩, by rw [C, if_pos rfl], by rw [C, if_neg (by omega)]; exact o8, by rw [R 313 (by omega)]; exact o9⟩
  · rcases q with ⟨q1, q2⟩ | q1
    · rw [q1, C, if_neg (by omega)]
    · rw [q1, R 283 (by omega)]
  · unfold Nc
    rw [R 313 (by omega), R 314 (by omega)]
    exact o4
  · rw [R 0 (by omega)]; exact o5
theorem q_stm (hv : v = 5 ∨ v = 46) (ok : g 3 0 = 0) (hs : skH g = g) (hk : 0 ≤ k ∧ k < 80) (hO : SO P v n0 z0 k m g h) (hy : ∀ h', SO False v n0 z0 (k + 1) m (stmF v g) h' → Q 0 h') : qC tFM (e + 11) k_m_statementTold [282] h Q := by
  have h2 : h 282 2 = g 3 4 := (hO.1.2.2.2.2.2 ok).1
  have h48 : h 282 48 = k := hO.2.2.2.2.1
  have Sg : Sc v g := hO.1.1
  have tk := (hO.2.1 ok).2
  -- the sign at the end
  have ends : ∀ (B : mmH) (ha : mmH), tsH 59 B = stmF v g → SE v n0 z0 k m B ha → qC tFM (e + 10) k_m_asksSign [282, 59] ha (fun x12 h12 => Q 0 (mmS h12 282 48 (mAdd (h12 282 48) 1))) := fun B ha eB S =>
    qC_le (d := e + 3) (by omega) (e_asksSign hv (by omega) S (fun h' O => hy _ (by rw [← eB]; exact SO_48 hv O hk)))
  have eS : stmF v g = tsH 59 (bodF v (wdV g) g) := by unfold stmF; rw [hs]
  have T : ∀ (w : Int) (hx : mmH) (R : Int → mmH → Prop), 0 ≤ w → w < 29 → SO P v n0 z0 k m g hx → (∀ h', wdV g ≠ w → SO P v n0 z0 k m g h' → R 0 h') → (∀ h', wdV g = w → SO P v n0 z0 k m (psH g) h' → R 1 h') → qC tFM (e + 10) k_m_takes [282, 284 + w] hx R := fun w hx R w1 w2 O a b => qC_le (d := e + 3) (by omega) (o_takes hv w1 w2 ok hs O a b)
  refine qC_intro (T_m_statementTold_0 _ _ _ _ _ ⟨fun _ => ?_, fun q => absurd (fun z => by omega) q⟩)
  rw [h2]
  refine T 0 _ _ (by omega) (by omega) hO (fun h1 w0 O => ⟨fun _ => ?_, fun q => absurd rfl q⟩) (fun h1 w0 O => ⟨fun q => absurd q (by omega), fun _ => ?_⟩)
  rotate_left
  · refine qC_le (d := e + 6) (by omega) (q_own hv ok O (fun ha O2 => ends _ _ ?_ (SO_SE O2)))
    rw [eS, w0]; unfold bodF; rw [if_pos rfl]
  refine T 1 _ _ (by omega) (by omega) O (fun h1 w1 O => ⟨fun _ => ?_, fun q => absurd rfl q⟩) (fun h1 w1 O => ⟨fun q => absurd q (by omega), fun _ => ?_⟩)
  rotate_left
  · refine qC_le (d := e + 6) (by omega) (q_lot hv ok O (fun ha O2 => ends _ _ ?_ (SO_SE O2)))
    rw [eS, w1]; unfold bodF; rw [if_neg (by omega), if_pos rfl]
  refine T 5 _ _ (by omega) (by omega) O (fun h1 w5 O => ⟨fun _ => ?_, fun q => absurd rfl q⟩) (fun h1 w5 O => ⟨fun q => absurd q (by omega), fun _ => ?_⟩)
  rotate_left
  · refine qC_le (d := e + 6) (by omega) (q_inn hv O (fun ha O2 => ends _ _ ?_ (SO_SE O2)))
    rw [eS, w5]; unfold bodF; rw [if_neg (by omega), if_neg (by omega), if_pos rfl]
  refine T 7 _ _ (by omega) (by omega) O (fun h1 w7 O => ⟨fun _ => ?_, fun q => absurd rfl q⟩) (fun h1 w7 O => ⟨fun q => absurd q (by omega), fun _ => ?_⟩)
  rotate_left
  · refine qC_le (d := e + 6) (by omega) (q_sto hv O (fun ha O2 => ends _ _ ?_ (SO_SE O2)))
    rw [eS, w7]; unfold bodF; rw [if_neg (by omega), if_neg (by omega), if_neg (by omega), if_pos rfl]
  refine T 8 _ _ (by omega) (by omega) O (fun h1 w8 O => ⟨fun _ => ?_, fun q => absurd rfl q⟩) (fun h1 w8 O => ⟨fun q => absurd q (by omega), fun _ => ?_⟩)
  rotate_left
  · refine qC_le (d := e + 6) (by omega) (q_gap hv ok O (fun ha O2 => ends _ _ ?_ (SO_SE O2)))
    rw [eS, w8]; unfold bodF; rw [if_neg (by omega), if_neg (by omega), if_neg (by omega), if_neg (by omega), if_pos rfl]
  refine T 10 _ _ (by omega) (by omega) O (fun h1 w10 O => ⟨fun _ => ?_, fun q => absurd rfl q⟩) (fun h1 w10 O => ⟨fun q => absurd q (by omega), fun _ => ?_⟩)
  rotate_left
  · refine qC_le (d := e + 6) (by omega) (q_per hv ok O (fun ha O2 => ends _ _ ?_ (SO_SE O2)))
    rw [eS, w10]; unfold bodF; rw [if_neg (by omega), if_neg (by omega), if_neg (by omega), if_neg (by omega), if_neg (by omega), if_pos rfl]
  refine T 17 _ _ (by omega) (by omega) O (fun h1 w17 O => ⟨fun _ => ?_, fun q => absurd rfl q⟩) (fun h1 w17 O => ⟨fun q => absurd q (by omega), fun _ => ?_⟩)
  rotate_left
  · refine q_law (s := true) hv ok Sg tk (Or.inl w17) (Or.inl ⟨rfl, rfl⟩) O (fun ha O2 => ends _ _ ?_ O2)
    rw [eS, w17]; unfold bodF; rw [if_neg (by omega), if_neg (by omega), if_neg (by omega), if_neg (by omega), if_neg (by omega), if_neg (by omega), if_pos rfl]
  refine T 18 _ _ (by omega) (by omega) O (fun h1 w18 O => ⟨fun _ => ?_, fun q => absurd rfl q⟩) (fun h1 w18 O => ⟨fun q => absurd q (by omega), fun _ => ?_⟩)
  rotate_left
  · refine q_law (s := false) hv ok Sg tk (Or.inr w18) (Or.inr ⟨rfl, rfl⟩) O (fun ha O2 => ends _ _ ?_ O2)
    rw [eS, w18]; unfold bodF; rw [if_neg (by omega), if_neg (by omega), if_neg (by omega), if_neg (by omega), if_neg (by omega), if_neg (by omega), if_neg (by omega), if_pos rfl]
  refine T 20 _ _ (by omega) (by omega) O (fun h1 w20 O => ⟨fun _ => ?_, fun q => absurd rfl q⟩) (fun h1 w20 O => ⟨fun q => absurd q (by omega), fun _ => ?_⟩)
  rotate_left
  · refine qC_le (d := e + 2) (by omega) (o_number hv O (fun x ha hx O2 => ends _ _ ?_ (SO_SE (SO_num (P := False) (i := 4) (x := nuV (skH (psH g))) hv (SO_f O2) (Or.inl ⟨rfl, rfl⟩) (fun ok2 => ?_)))))
    · rw [eS, w20]; unfold bodF; rw [if_neg (by omega), if_neg (by omega), if_neg (by omega), if_neg (by omega), if_neg (by omega), if_neg (by omega), if_neg (by omega), if_neg (by omega), if_pos rfl]; rfl
    · have := hx ok2
      exact ⟨this.1, Or.inl ⟨rfl, by omega, by omega⟩⟩
  refine qC_le (d := e + 4) (by omega) (o_asks (w := 21) hv (by omega) (by omega) O (fun h10 O1 => ?_))
  by_cases w21 : wdV g = 21
  · have et : twH 21 g = psH g := by unfold twH; rw [hs, if_pos w21]
    rw [et] at O1
    refine qC_le (d := e + 2) (by omega) (o_number hv O1 (fun x ha hx O2 => ends _ _ ?_ (SO_SE (SO_num (P := False) (i := 5) (x := nuV (skH (psH g))) hv (SO_f O2) (Or.inr ⟨rfl, rfl⟩) (fun ok2 => ?_)))))
    · rw [eS, w21]; unfold bodF; rw [if_neg (by omega), if_neg (by omega), if_neg (by omega), if_neg (by omega), if_neg (by omega), if_neg (by omega), if_neg (by omega), if_neg (by omega), if_neg (by omega), if_pos rfl]; rfl
    · have := hx ok2
      exact ⟨this.1, Or.inr ⟨rfl, by omega, by omega⟩⟩
  · have et : twH 21 g = flH 1 (g 3 4) g := by unfold twH; rw [hs, if_neg w21]
    rw [et] at O1
    have bad : flH 1 (g 3 4) g 3 0 ≠ 0 := fl_bad (by omega)
    have b5 : h10 282 5 ≠ 0 := by rw [SO_5 O1]; exact bad
    have hb : bodF v (wdV g) g = flH 1 (g 3 4) g := by
      unfold bodF
      rw [if_neg w0, if_neg w1, if_neg w5, if_neg w7, if_neg w8, if_neg w10, if_neg w17, if_neg w18, if_neg w20, if_neg w21]
    refine qC_le (d := e + 2) (by omega) (qC_intro (T_m_number_0 _ _ _ _ _ _ _ ⟨fun q => absurd q b5, fun _ => ends (flH 1 (g 3 4) g) _ (by rw [eS, hb]) (SO_SE ?_)⟩))
    have N := SO_num (i := 5) (x := flH 1 (g 3 4) g v 5) (y := 0) (r := 319) hv (SO_f O1) (Or.inr ⟨rfl, rfl⟩) (fun ok => absurd ok bad)
    rw [mmS_id] at N
    exact N
end ST
