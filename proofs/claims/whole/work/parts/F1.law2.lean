/-! ===== mm: laws told, in lockstep ===== -/
section LX
variable {d e : Nat} {P P' : Prop} {v n0 z0 k : Int} {m g g' h h' M G H : mmH} {Q : Int → mmH → Prop}
theorem RB_to (hv : v = 5 ∨ v = 46) (hB : RB v g h) (hS : Sc v g) (h2 : g' 2 = g 2) (h3 : g' 3 = g 3) (hS' : Sc v g') : ∃ g0, Sc v g0 ∧ skH g0 = skH g' ∧ RS True g0 h := by
  obtain ⟨g0, s0, e0, r0⟩ := hB
  have c2 : ∀ k, k ≠ 3 → g0 k = g k := fun k q => by
    have := congrFun e0 k
    unfold skH at this
    rw [mmS_row q, mmS_row q] at this
    exact this
  have c3 : ∀ i, i ≠ 4 → g0 3 i = g 3 i := fun i q => by
    have := congrFun (congrFun e0 3) i
    unfold skH at this
    rw [mmS_slot, if_neg q, mmS_slot, if_neg q] at this
    exact this
  have gs : ∀ k, k ≠ 3 → mmS g' 3 4 (g0 3 4) k = g' k := fun k q => mmS_row q
  have e34 : mmS g' 3 4 (g0 3 4) 3 = g0 3 := by
    funext i
    rw [mmS_slot]
    by_cases q : i = 4
    · rw [if_pos q, q]
    · rw [if_neg q, h3, c3 i q]
  refine ⟨mmS g' 3 4 (g0 3 4), Sc_at hv hS' s0.2.1.1 (by rw [h3, ← c3 3 (by omega)]; exact s0.2.1.2.1), ?_, ?_⟩
  · unfold skH
    have q1 := congrFun (congrFun e0 3) 4
    unfold skH at q1
    rw [mmS_slot, if_pos rfl, mmS_slot, if_pos rfl] at q1
    rw [gs 2 (by omega), e34, h2, ← c2 2 (by omega), q1, mmS_mmS, h3, c2 2 (by omega)]
  · refine RS_out r0 (fun k i q => ?_) (fun _ _ _ => rfl)
    rcases q with ⟨q1, q2⟩ | q1
    · rw [q1, e34]
    · rw [q1, gs 2 (by omega), h2, c2 2 (by omega)]
theorem mkJ {X : mmH} (hO : SO True v n0 z0 k m g h) (hl : g 3 0 = 0 → g (v + 33) 1 + 3 ≤ g 3 4) (x0 : X 0 = h 0) (x3 : X 283 = h 283) (x2 : X 322 = h 322) (xi : ∀ i, i ≠ 52 → i ≠ 53 → i ≠ 57 → X 282 i = h 282 i) (y1 : X 282 52 = 0) (y2 : X 282 53 = 0) (y3 : X 282 57 = 0) : J v n0 z0 X g X := by
  obtain ⟨⟨o1, o2⟩, o3, o4, ⟨o5, o6⟩, o7, o8, o9⟩ := hO
  have rs : RS True g X := RS_out o2 (fun _ _ _ => rfl) (fun j i q => by
    rcases q with ⟨q1, q2⟩ | q1
    · rw [q1]; exact xi i (by omega) (by omega) (by omega)
    · rw [q1, x3])
  by_cases ok : g 3 0 = 0
  · obtain ⟨T, tk⟩ := o3 ok
    obtain ⟨-, -, -, -, -, -, l2, l3⟩ := T
    have t0 := o1.2.2.2.1.1
    have hl := hl ok
    refine Or.inl ⟨⟨ok, o1, RB_of o1 rs⟩, ⟨by rw [x0]; exact o5, Fr.rf⟩, ⟨y1, trivial⟩, ⟨y2, y3⟩, ⟨by show _ + ((0 : Nat) : Int) + 3 ≤ _; omega, by omega⟩, ⟨?_, by show ((0 : Nat) : Int) ≤ _; omega⟩, fun j j1 j2 => ?_, fun i hi => absurd hi (Nat.not_lt_zero _)⟩
    · rw [xi 50 (by omega) (by omega) (by omega), l2]; show _ = _ - ((0 : Nat) : Int); omega
    · have j2 : j < g (v + 33) 1 - ((0 : Nat) : Int) := j2
      rw [x2]
      exact l3 j j1 (by omega)
  · exact Or.inr ⟨⟨ok, o1, rs⟩, ⟨by rw [x0]; exact o5, Fr.rf⟩, by rw [xi 50 (by omega) (by omega) (by omega)]; exact o8⟩
theorem nRw {j i : Int} (h1 : 313 ≤ j) (h2 : j ≠ 322) (h3 : j ≠ 323) : ¬ RwK j i := by unfold RwK MsK; omega
theorem nR48 : ¬ RwK 282 48 := by unfold RwK MsK; omega
theorem nSc {j i : Int} (hv : v = 5 ∨ v = 46) (h : (v ≤ j ∧ j ≤ v + 32) ∨ (v + 34 ≤ j ∧ j ≤ v + 37)) : ¬ ScK v j i := by unfold ScK; omega
set_option maxHeartbeats 8000000 in
theorem law_end {n t0 bar o : Int} {hb : mmH} {gB C D : mmH} {h5 h6 : mmH} (hv : v = 5 ∨ v = 46) (hCk : Stk G C) (hCf : Fr (ScK v) G C) (hCp : Sc v G → Plain v G C ∧ Sc v C) (hDk : Stk C D) (hDf : Fr (ScK v) C D) (hDa : Sc v C → C (v + 33) 1 ≤ C 3 4 → AdT v 38 true C D) (hn : 0 ≤ n ∧ n < 8) (hO : SO True v n0 z0 k m gB hb) (en : gB (v + 33) 0 = n) (et : gB (v + 33) 1 = t0) (hG : Fr (ScK v) gB G) (hGs : Stk gB G) (hA : G 3 0 = 0 → Adv v gB G ∨ G = gB) (hAb : G 3 0 = 0 → (bar = 0 ∧ chkR (G (v + 38)) (G (v + 33) 1 - t0).toNat t0 [] = some [false]) ∨ (bar = 1 ∧ t0 = G (v + 33) 1))
    (hJ0 : J v n0 z0 M G H) (hM : ∀ j i, ¬ RwK j i → ¬ ((j = 320 ∨ j = 321 ∨ j = 324) ∧ i = n) → H j i = hb j i) (w0 : H 320 n = o) (w1 : H 321 n = bar) (w4 : G 3 0 = 0 → H 324 n = t0) (hJ : J v n0 z0 h5 D h6) (e5 : h5 = mmS H 325 n (H 282 50)) :
    SE v n0 z0 k m (okE D (adW v o t0 (C (v + 33) 1) D)) (mmS (mmS h6 326 n (h6 282 50)) 313 4 (n + 1)) := by
  have F6 : ∀ j i, ¬ RwK j i → h6 j i = h5 j i := (J_nm hJ).2
  have fr : ∀ j i, ¬ RwK j i → ¬ ((j = 320 ∨ j = 321 ∨ j = 324 ∨ j = 325) ∧ i = n) → h6 j i = hb j i := fun j i q1 q2 => by
    rw [F6 j i q1, e5]
    by_cases z : j = 325
    · subst z
      rw [mmS_slot, if_neg (by omega)]
      exact hM _ _ q1 (by omega)
    · rw [mmS_cell z]
      exact hM _ _ q1 (by omega)
  have Z : ∀ j, j ≠ 326 → j ≠ 313 → mmS (mmS h6 326 n (h6 282 50)) 313 4 (n + 1) j = h6 j := fun j q1 q2 => by rw [mmS_row q2, mmS_row q1]
  have Z3 : ∀ i, mmS (mmS h6 326 n (h6 282 50)) 313 4 (n + 1) 313 i = if i = 4 then n + 1 else hb 313 i := fun i => by
    rw [mmS_slot, mmS_cell (by omega)]
    split
    · rfl
    · exact fr 313 i (nRw (by decide) (by decide) (by decide)) (by omega)
  have Z6 : ∀ i, mmS (mmS h6 326 n (h6 282 50)) 313 4 (n + 1) 326 i = if i = n then h6 282 50 else hb 326 i := fun i => by
    rw [mmS_cell (by omega), mmS_slot]
    split
    · rfl
    · exact fr 326 i (nRw (by decide) (by decide) (by decide)) (by omega)
  generalize mmS (mmS h6 326 n (h6 282 50)) 313 4 (n + 1) = Y at Z Z3 Z6
  obtain ⟨⟨o1, o2⟩, o3, o4, ⟨o5, o6⟩, o7, o8, o9⟩ := hO
  have z282 := Z 282 (by decide) (by decide)
  have Yf : Fr ScM m Y := fun j i q => by
    have q' : ¬ ScM j i := q
    rw [← o6 j i q]
    have nr : ¬ RwK j i := fun z => q' (by unfold RwK MsK at z; unfold ScM; omega)
    by_cases y3 : j = 313
    · subst y3
      rw [Z3, if_neg (fun z => q' (ScM_r _ _ (by omega)))]
    · by_cases y6 : j = 326
      · subst y6
        rw [Z6, if_neg (fun z => q' (ScM_r _ _ (by omega)))]
      · rw [Z j y6 y3]
        exact fr j i nr (fun z => q' (ScM_r _ _ (by omega)))
  have nm : Y 0 0 = n0 ∧ Y 0 1 = z0 := by rw [Z 0 (by decide) (by decide)]; exact (J_nm hJ).1
  have y48 : Y 282 48 = k := by rw [z282, fr 282 48 nR48 (by omega)]; exact o7
  have y3 : (0 ≤ Y 313 3 ∧ Y 313 3 ≤ 20) ∧ (0 ≤ Y 313 4 ∧ Y 313 4 ≤ 8) := by
    rw [Z3, Z3, if_neg (by omega), if_pos rfl]
    exact ⟨o9.1, by omega⟩
  have fD : Fr (ScK v) gB D := (hG.tr hCf).tr hDf
  have fg : ∀ j i, ¬ ScK v j i → D j i = gB j i := fD
  have r33 : ∀ x : mmH, Fr (ScK v) gB x → x (v + 33) 0 = n := fun x f => by
    have f : ∀ j i, ¬ ScK v j i → x j i = gB j i := f
    rw [f _ _ (by unfold ScK; omega), en]
  by_cases ok : D 3 0 = 0
  · rw [okE_ok ok]
    have okC : C 3 0 = 0 := stk_back hDk ok
    have okG : G 3 0 = 0 := stk_back hCk okC
    have okB : gB 3 0 = 0 := stk_back hGs okG
    obtain ⟨T, tk⟩ := o3 okB
    have SG : Sc v G := by
      rcases hJ0 with q | q
      · exact q.1.2.1
      · exact q.1.2.1
    have SC := (hCp SG).2
    have RJ : RW v n0 z0 3 0 0 h5 D h6 [] [] := by
      rcases hJ with q | q
      · exact q
      · exact absurd ok q.1.1
    have RG : RW v n0 z0 3 0 0 M G H [] [] := by
      rcases hJ0 with q | q
      · exact q
      · exact absurd okG q.1.1
    have pt := (hCp SG).1 okC
    have bd := RW_bd RJ
    have bg := RW_bd RG
    have eC : C (v + 33) 1 = G (v + 33) 1 := pt.2.2.1
    have hDC : C (v + 33) 1 ≤ C 3 4 := by
      have q0 : G (v + 33) 1 + ((0 : Nat) : Int) + 3 ≤ G 3 4 := bg.2.1
      have := pt.2.1
      omega
    obtain ⟨A, Ty⟩ := hDa SC hDC ok
    have bdl : ((([] : List Int).length : Nat) : Int) = 0 := rfl
    rw [bdl] at bd bg
    have t01 : t0 ≤ G (v + 33) 1 ∧ ∀ j, j < t0 → G (v + 38) j = gB (v + 38) j := by
      rcases hA okG with q | q
      · exact ⟨by rw [← et]; exact q.2.2.1, fun j j1 => q.2.2.2.2 j (by omega)⟩
      · rw [q]; exact ⟨by omega, fun _ _ => rfl⟩
    have D38 : ∀ j, j < G (v + 33) 1 → D (v + 38) j = G (v + 38) j := fun j j1 => by
      rw [A.2.2.2.2 j (by omega), pt.2.2.2 j]
    have zt := o1.2.2.2.1.1
    have TT : Tz v (adW v o t0 (C (v + 33) 1) D) Y := by
      refine Tz_law (bar := bar) (t2 := D (v + 33) 1) (n := n) hv T en hn.2 et rfl (r33 _ fD) (by omega) (by omega) A.2.2.1 (fun j j1 j2 j3 j4 => funext fun i => fg j i (by unfold ScK; omega)) (fun j j1 => by rw [D38 j (by omega), t01.2 j j1]) ?_ (Ty [] (by simp)) (fun j j1 j2 j3 => funext fun i => ?_) Z3 (fun i => ?_) (fun i => ?_) (fun i => ?_) (fun i => ?_) (fun i => ?_) ?_ (fun j j1 j2 => ?_)
      · rcases hAb okG with ⟨q1, q2⟩ | ⟨q1, q2⟩
        · refine Or.inl ⟨q1, ?_⟩
          rw [eC, ← q2]
          exact chkR_congr _ _ _ (fun j j1 j2 => D38 j (by omega))
        · exact Or.inr ⟨q1, by rw [eC]; exact q2⟩
      · rw [Z j (by omega) (by omega)]
        exact fr j i (by unfold RwK MsK; omega) (by omega)
      · rw [Z 320 (by decide) (by decide)]
        split
        · next c => rw [c, F6 _ _ (nRw (by decide) (by decide) (by decide)), e5, mmS_cell (by omega)]; exact w0
        · exact fr 320 i (nRw (by decide) (by decide) (by decide)) (by omega)
      · rw [Z 321 (by decide) (by decide)]
        split
        · next c => rw [c, F6 _ _ (nRw (by decide) (by decide) (by decide)), e5, mmS_cell (by omega)]; exact w1
        · exact fr 321 i (nRw (by decide) (by decide) (by decide)) (by omega)
      · rw [Z 324 (by decide) (by decide)]
        split
        · next c => rw [c, F6 _ _ (nRw (by decide) (by decide) (by decide)), e5, mmS_cell (by omega)]; exact w4 okG
        · exact fr 324 i (nRw (by decide) (by decide) (by decide)) (by omega)
      · rw [Z 325 (by decide) (by decide)]
        split
        · next c => rw [c, F6 _ _ (nRw (by decide) (by decide) (by decide)), e5, mmS_slot, if_pos rfl, eC]; omega
        · exact fr 325 i (nRw (by decide) (by decide) (by decide)) (by omega)
      · rw [Z6]
        split
        · omega
        · rfl
      · rw [z282]; omega
      · rw [Z 322 (by decide) (by decide)]
        exact RJ.2.2.2.2.2.2.1 j j1 (by show j < _ - ((0 : Nat) : Int); omega)
    have aw : ∀ j, j < v + 33 ∨ v + 37 < j → adW v o t0 (C (v + 33) 1) D j = D j := fun j q => by
      unfold adW
      split
      · rw [mmS_row (by omega), mmS_row (by omega), mmS_row (by omega), mmS_row (by omega), mmS_row (by omega)]
      · rfl
    have aw33 : adW v o t0 (C (v + 33) 1) D (v + 33) 1 = D (v + 33) 1 := by
      unfold adW
      split
      · rw [mmS_slot, if_neg (by omega), mmS_cell (by omega), mmS_cell (by omega), mmS_cell (by omega), mmS_cell (by omega)]
      · rfl
    have SD : Sc v (adW v o t0 (C (v + 33) 1) D) := by
      unfold Sc
      rw [aw 3 (Or.inl (by omega)), aw 2 (Or.inl (by omega)), aw 45 (by omega), aw33]
      exact RJ.1.2.1
    obtain ⟨g0, s0, k0, r0⟩ := RB_to hv RJ.1.2.2 RJ.1.2.1 (aw 2 (Or.inl (by omega))) (aw 3 (Or.inl (by omega))) SD
    refine ⟨g0, ⟨s0, k0, RS_w (RS_out r0 (fun _ _ _ => rfl) (fun j i q => ?_))⟩, SD, fun _ => ⟨TT, ?_⟩, Tz_Nc TT, ⟨nm, Yf⟩, y48, ?_, y3⟩
    · rw [Z j (by omega) (by omega)]
    · rw [aw33, aw 3 (Or.inl (by omega))]; omega
    · rw [z282]; omega
  · rw [okE_bad ok]
    have BJ : BD v n0 z0 1600 h5 D h6 := by
      rcases hJ with q | q
      · exact absurd q.1.1 ok
      · exact q
    refine ⟨_, ⟨BJ.1.2.1, rfl, RS_w (RS_out BJ.1.2.2 (fun _ _ _ => rfl) (fun j i q => ?_))⟩, BJ.1.2.1, fun z => absurd z ok, ?_, ⟨nm, Yf⟩, y48, by rw [z282]; exact BJ.2.2, y3⟩
    · rw [Z j (by omega) (by omega)]
    · obtain ⟨a1, a2, a3, a4, a5, a6⟩ := o4
      have y31 : ∀ i, i ≠ 4 → Y 313 i = hb 313 i := fun i q => by rw [Z3, if_neg q]
      have y14 : ∀ i, Y 314 i = hb 314 i := fun i => by rw [Z 314 (by decide) (by decide)]; exact fr 314 i (nRw (by decide) (by decide) (by decide)) (by omega)
      unfold Nc
      rw [fg v 0 (nSc hv (Or.inl ⟨by omega, by omega⟩)), fg v 1 (nSc hv (Or.inl ⟨by omega, by omega⟩)), fg v 3 (nSc hv (Or.inl ⟨by omega, by omega⟩)), y31 0 (by omega), y31 1 (by omega), y31 2 (by omega)]
      refine ⟨a1, a2, a3, fun i i1 i2 => ?_, fun i i1 i2 => ?_, fun i i1 i2 => ?_⟩
      · rw [fg _ _ (by unfold ScK; omega), y14]; exact a4 i i1 i2
      · rw [fg _ _ (by unfold ScK; omega), y14]; exact a5 i i1 i2
      · rw [fg _ _ (by unfold ScK; omega), y14]; exact a6 i i1 i2
end LX
