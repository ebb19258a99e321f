/-! ===== mm: inns and storks told ===== -/
section TI
variable {d : Nat} {P P' : Prop} {v n0 z0 k : Int} {m g g' h h' : mmH} {Q : Int → mmH → Prop}
theorem Tz_set {l i x : Int} (hv : v = 5 ∨ v = 46) (hT : Tz v g h) (hl : 0 ≤ l ∧ l < g v 1) (hx : (i = 3 ∧ 0 ≤ x ∧ x ≤ 9) ∨ (i = 4 ∧ 0 ≤ x ∧ x ≤ 1)) : Tz v (mmS g (v + 5 + l) i x) (mmS h 315 (5 * l + i) x) := by
  obtain ⟨t1, t2, t3, t4, t5, t6⟩ := hT
  have b1 := t1.2.1.2.1
  have R : ∀ j, j ≠ v + 5 + l → mmS g (v + 5 + l) i x j = g j := fun j q => mmS_row q
  have C : ∀ j c, mmS g (v + 5 + l) i x (v + 5 + j) c = if j = l ∧ c = i then x else g (v + 5 + j) c := fun j c => by
    unfold mmS
    by_cases q : j = l
    · subst q
      by_cases q2 : c = i
      · rw [if_pos rfl, if_pos q2, if_pos ⟨rfl, q2⟩]
      · rw [if_pos rfl, if_neg q2, if_neg (fun z => q2 z.2)]
    · rw [if_neg (by omega), if_neg (fun z => q z.1)]
  have H : ∀ j, j ≠ 315 → mmS h 315 (5 * l + i) x j = h j := fun j q => mmS_row q
  have D : ∀ j, mmS h 315 (5 * l + i) x 315 j = if j = 5 * l + i then x else h 315 j := fun j => mmS_slot ..
  generalize mmS g (v + 5 + l) i x = G at R C
  generalize mmS h 315 (5 * l + i) x = M at H D
  have e0 := R v (by omega)
  refine ⟨?_, ?_, ?_, ?_, ?_, ?_⟩
  · unfold zNum
    rw [e0, R (v + 33) (by omega), H 313 (by omega), H 319 (by omega), H 318 (by omega)]
    exact t1
  · intro j j1 j2
    rw [e0] at j2
    rw [e0]
    simp only [C, D]
    obtain ⟨q0, q1, q2, q3, q4⟩ := t2 j j1 j2
    refine ⟨?_, ?_, ?_, ?_, ?_⟩
    · rw [if_neg (by omega), if_neg (by omega)]; exact q0
    · rw [if_neg (by omega), if_neg (by omega)]; exact q1
    · rw [if_neg (by omega), if_neg (by omega)]; exact q2
    · by_cases z : j = l ∧ (3 : Int) = i
      · rw [if_pos z, if_pos (by omega)]; omega
      · rw [if_neg z, if_neg (by omega)]; exact q3
    · by_cases z : j = l ∧ (4 : Int) = i
      · rw [if_pos z, if_pos (by omega)]; omega
      · rw [if_neg z, if_neg (by omega)]; exact q4
  · intro p p1 p2
    rw [e0] at p2 ⊢
    rw [R (v + 16 + p) (by omega), H 317 (by omega)]
    exact t3 p p1 p2
  · refine ⟨fun a b p1 p2 q1 q2 => ?_, fun a b p1 p2 q1 q2 c => ?_⟩
    · rw [e0] at p2 q2
      rw [R (v + 23 + a) (by omega), H 316 (by omega)]
      exact t4.1 a b p1 p2 q1 q2
    · rw [e0] at c
      rw [R (v + 23 + a) (by omega)]
      exact t4.2 a b p1 p2 q1 q2 c
  · unfold zName
    rw [e0, R (v + 1) (by omega), R (v + 2) (by omega), R (v + 3) (by omega), H 314 (by omega)]
    exact t5
  · unfold zLaw
    rw [R (v + 33) (by omega), R (v + 34) (by omega), R (v + 35) (by omega), R (v + 36) (by omega), R (v + 37) (by omega), R (v + 38) (by omega), H 320 (by omega), H 321 (by omega), H 322 (by omega), H 324 (by omega), H 325 (by omega), H 326 (by omega), H 282 (by omega)]
    exact t6
theorem SO_set {l i x : Int} (hv : v = 5 ∨ v = 46) (hO : SO P v n0 z0 k m g h) (ok : g 3 0 = 0) (hl : 0 ≤ l ∧ l < g v 1) (hx : (i = 3 ∧ 0 ≤ x ∧ x ≤ 9) ∨ (i = 4 ∧ 0 ≤ x ∧ x ≤ 1)) : SO P v n0 z0 k m (setL v g l i x) (mmS h 315 (5 * l + i) x) := by
  have b1 := hO.2.2.1.2.1.2
  have T := Tz_set hv (hO.2.1 ok).1 hl hx
  have e : setL v g l i x = mmS g (v + 5 + l) i x := by unfold setL isLo; rw [if_pos hl]
  rw [e]
  refine SO_put hO ok (mmS_row (by omega)) (mmS_row (by omega)) (mmS_row (by omega)) (mmS_cell (by omega)) (mmS_row (by omega)) (mmS_row (by omega)) (mmS_row (by omega)) (Fr.rf.put (ScM_r _ _ (by omega))) T
/-- a lot's name, and whether it has one already -/
theorem o_lotFree {i : Int} {K : Int → mmH → Prop} (hv : v = 5 ∨ v = 46) (hi : i = 3 ∨ i = 4) (hO : SO P v n0 z0 k m g h)
    (hy : ∀ x h', (rfH (rwB2 v (lbH v g) (lbX v g) i) (lbH v g) 3 0 = 0 → x = lbX v g ∧ 0 ≤ x ∧ x < g v 1) → SO True v n0 z0 k m (rfH (rwB2 v (lbH v g) (lbX v g) i) (lbH v g)) h' → K x h')
    (hq : ∀ x h1, (h1 282 5 ≠ 0 → K x h1) ∧ (¬ (h1 282 5 ≠ 0) → mmD ((0 : Int) ≤ (mAdd (mMul 5 x) i) ∧ (mAdd (mMul 5 x) i) < ((100 : Nat) : Int)) inferInstance (((h1 315 (mAdd (mMul 5 x) i)) ≤ 0 → K x h1) ∧ (¬ ((h1 315 (mAdd (mMul 5 x) i)) ≤ 0) → qC tFM (d + 5) k_m_fail [282, 3, (h1 282 38)] h1 (fun _ h2 => K x h2)))) → Q x h1) : qC tFM (d + 5) k_m_oneOf [282, 1] h Q := by
  refine o_lot hv hO (fun x h1 e1 e2 O1 => hq x h1 ?_)
  generalize hL : lbH v g = L at hy e1 e2 O1
  have eLv : L v = g v := by rw [← hL]; exact r3_v hv r3_lb
  by_cases ok : L 3 0 = 0
  · have h5 : h1 282 5 = 0 := by rw [SO_5 O1]; exact ok
    obtain ⟨ex, x1, x2⟩ := e1 ok
    have T := (O1.2.1 ok).1
    have bl := T.1.2.1.2.1
    have tl := T.2.1 x x1 (by rw [eLv]; exact x2)
    rw [eLv] at bl
    refine ⟨fun q => absurd h5 q, fun _ => ?_⟩
    rw [mmD_iff, mMul_ok (by omega) (by omega), mAdd_ok (by omega) (by omega)]
    have tw : h1 315 (5 * x + i) = L (v + 5 + x) i ∧ 0 ≤ L (v + 5 + x) i := by
      rcases hi with z | z <;> subst z
      · exact ⟨tl.2.2.2.1.1, tl.2.2.2.1.2.1⟩
      · exact ⟨tl.2.2.2.2.1, tl.2.2.2.2.2.1⟩
    rw [tw.1]
    refine ⟨by omega, fun q => ?_, fun q => ?_⟩
    · have er : rwB2 v L (lbX v g) i = false := by
        unfold rwB2
        rw [decide_eq_false_iff_not]
        rw [← ex]
        exact fun z => z.2 (by omega)
      rw [er] at hy
      exact hy x h1 (fun _ => ⟨ex, x1, x2⟩) O1
    · have er : rwB2 v L (lbX v g) i = true := by
        unfold rwB2
        rw [← ex]
        exact @decide_eq_true _ (Classical.propDecidable _) ⟨⟨x1, by rw [eLv]; exact x2⟩, by omega⟩
      rw [er] at hy
      exact o_fail (d := d + 4) hv (by omega) O1 (fun _ => SO_38 O1 ok) (fun h2 O2 => hy x h2 (fun z => absurd z (fl_bad (by omega))) O2)
  · have h5 : h1 282 5 ≠ 0 := by rw [SO_5 O1]; exact ok
    have eG : ∀ t : Bool, rfH t L = L := fun t => by
      unfold rfH
      split
      · unfold flH; rw [if_pos ok]
      · rfl
    rw [eG] at hy
    exact ⟨fun _ => hy x h1 (fun q => absurd q ok) O1, fun q => absurd h5 q⟩
theorem q_inn (hv : v = 5 ∨ v = 46) (hO : SO P v n0 z0 k m (psH g) h) (hy : ∀ h', SO False v n0 z0 k m (innF v g) h' → Q 0 h') : qC tFM (d + 6) k_m_innTold [282] h Q := by
  unfold innF at hy
  refine qC_intro (T_m_innTold_0 _ _ _ _ _ (o_lotFree (i := 3) (K := fun x h1 => qB tFM (d + 5) k_m_innTold (h 0 0) (h 0 1) Q 1 [(3, 282), (1, x), (0, 0)] [] h1) hv (Or.inl rfl) hO (fun x h1 ex O1 => ?_) (fun x h1 z => z)))
  refine T_m_innTold_1 _ _ _ _ _ _ (o_asks (w := 6) hv (by omega) (by omega) O1 (fun h2 O2 => o_number hv O2 (fun y h3 ey O3 => ?_)))
  have eA : twH 6 (rfH (rwB2 v (lbH v (psH g)) (lbX v (psH g)) 3) (lbH v (psH g))) = inA v g := rfl
  rw [eA] at ey O3
  by_cases ok : nuH 1 9 (inA v g) 3 0 = 0
  · have h5 : h3 282 5 = 0 := by rw [SO_5 O3]; exact ok
    have okA := stk_back sk_nu ok
    have okr := stk_back (sk_tw (w := 6)) (show twH 6 (rfH (rwB2 v (lbH v (psH g)) (lbX v (psH g)) 3) (lbH v (psH g))) 3 0 = 0 from okA)
    obtain ⟨e1, e2, e3⟩ := ex okr
    obtain ⟨e4, e5, e6⟩ := ey ok
    rw [okE_ok ok, ← e1, ← e4] at hy
    have ev : nuH 1 9 (inA v g) v = psH g v := (r3_v hv r3_nu).trans ((r3_v hv r3_tw).trans ((r3_v hv r3_rf).trans (r3_v hv r3_lb)))
    have bl := (O3.2.1 ok).1.1.2.1.2.1
    rw [ev] at bl
    refine ⟨fun q => absurd h5 q, fun _ => ?_⟩
    rw [mmD_iff, mMul_ok (by omega) (by omega), mAdd_ok (by omega) (by omega)]
    exact ⟨by omega, hy _ (SO_w (SO_set hv O3 ok (by rw [ev]; exact ⟨e2, e3⟩) (Or.inl ⟨rfl, by omega, e6⟩)))⟩
  · have h5 : h3 282 5 ≠ 0 := by rw [SO_5 O3]; exact ok
    rw [okE_bad ok] at hy
    exact ⟨fun _ => hy h3 (SO_w O3), fun q => absurd h5 q⟩
theorem q_sto (hv : v = 5 ∨ v = 46) (hO : SO P v n0 z0 k m (psH g) h) (hy : ∀ h', SO False v n0 z0 k m (stoF v g) h' → Q 0 h') : qC tFM (d + 6) k_m_storkTold [282] h Q := by
  unfold stoF at hy
  refine qC_intro (T_m_storkTold_0 _ _ _ _ _ (o_lotFree (i := 4) (K := fun x h1 => qB tFM (d + 5) k_m_storkTold (h 0 0) (h 0 1) Q 1 [(3, 282), (1, x)] [] h1) hv (Or.inr rfl) hO (fun x h1 ex O1 => ?_) (fun x h1 z => z)))
  have eA : rfH (rwB2 v (lbH v (psH g)) (lbX v (psH g)) 4) (lbH v (psH g)) = stA v g := rfl
  rw [eA] at ex O1
  refine T_m_storkTold_1 _ _ _ _ _ _ ?_
  by_cases ok : stA v g 3 0 = 0
  · have h5 : h1 282 5 = 0 := by rw [SO_5 O1]; exact ok
    obtain ⟨e1, e2, e3⟩ := ex ok
    rw [okE_ok ok, ← e1] at hy
    have ev : stA v g v = psH g v := (r3_v hv r3_rf).trans (r3_v hv r3_lb)
    have bl := (O1.2.1 ok).1.1.2.1.2.1
    rw [ev] at bl
    refine ⟨fun q => absurd h5 q, fun _ => ?_⟩
    rw [mmD_iff, mMul_ok (by omega) (by omega), mAdd_ok (by omega) (by omega)]
    exact ⟨by omega, hy _ (SO_w (SO_set hv O1 ok (by rw [ev]; exact ⟨e2, e3⟩) (Or.inr ⟨rfl, by omega, by omega⟩)))⟩
  · have h5 : h1 282 5 ≠ 0 := by rw [SO_5 O1]; exact ok
    rw [okE_bad ok] at hy
    exact ⟨fun _ => hy h1 (SO_w O1), fun q => absurd h5 q⟩
end TI
