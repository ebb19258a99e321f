/-! ===== mm: laws told, in lockstep ===== -/
section LX
variable {d e : Nat} {P P' : Prop} {v n0 z0 k : Int} {m g g' h h' M G H : mmH} {Q : Int → mmH → Prop}
theorem RB_to (hv : v = 5 ∨ v = 46) (hB : RB v g h) (hS : Sc v g) (h2 : g' 2 = g 2) (h3 : g' 3 = g 3) (hS' : Sc v g') : ∃ g0, Sc v g0 ∧ skH g0 = skH g' ∧ RS True g0 h := by
  obtain ⟨g0, s0, e0, r0⟩ := hB
  have c2 : ∀ k, k ≠ 3 → g0 k = g k := fun k q => by
    have := congrFun e0 k
    unfold skH at this
    rw [mmS_row q, mmS_row q] at this
    exact this
  have c3 : ∀ i, i ≠ 4 → g0 3 i = g 3 i := fun i q => by
    have := congrFun (congrFun e0 3) i
    unfold skH at this
    rw [mmS_slot, if_neg q, mmS_slot, if_neg q] at this
    exact this
  have gs : ∀ k, k ≠ 3 → mmS g' 3 4 (g0 3 4) k = g' k := fun k q => mmS_row q
  have e34 : mmS g' 3 4 (g0 3 4) 3 = g0 3 := by
    funext i
    rw [mmS_slot]
    by_cases q : i = 4
    · rw [if_pos q, q]
    · rw [if_neg q, h3, c3 i q]
  refine ⟨mmS g' 3 4 (g0 3 4), Sc_at hv hS' s0.2.1.1 (by rw [h3, ← c3 3 (by omega)]; exact s0.2.1.2.1), ?_, ?_⟩
  · unfold skH
    have q1 := congrFun (congrFun e0 3) 4
    unfold skH at q1
    rw [mmS_slot, if_pos rfl, mmS_slot, if_pos rfl] at q1
    rw [gs 2 (by omega), e34, h2, ← c2 2 (by omega), q1, mmS_mmS, h3, c2 2 (by omega)]
  · refine RS_out r0 (fun k i q => ?_) (fun _ _ _ => rfl)
    rcases q with ⟨q1, q2⟩ | q1
    · rw [q1, e34]
    · rw [q1, gs 2 (by omega), h2, c2 2 (by omega)]
theorem mkJ {X : mmH} (hO : SO True v n0 z0 k m g h) (hl : g 3 0 = 0 → g (v + 33) 1 + 3 ≤ g 3 4) (x0 : X 0 = h 0) (x3 : X 283 = h 283) (x2 : X 322 = h 322) (xi : ∀ i, i ≠ 52 → i ≠ 53 → i ≠ 57 → X 282 i = h 282 i) (y1 : X 282 52 = 0) (y2 : X 282 53 = 0) (y3 : X 282 57 = 0) : J v n0 z0 X g X := by
  obtain ⟨⟨o1, o2⟩, o3, o4, ⟨o5, o6⟩, o7, o8, o9⟩ := hO
  have rs : RS True g X := RS_out o2 (fun _ _ _ => rfl) (fun j i q => by
    rcases q with ⟨q1, q2⟩ | q1
    · rw [q1]; exact xi i (by omega) (by omega) (by omega)
    · rw [q1, x3])
  by_cases ok : g 3 0 = 0
  · obtain ⟨T, tk⟩ := o3 ok
    obtain ⟨-, -, -, -, -, -, l2, l3⟩ := T
    have t0 := o1.2.2.2.1.1
    have hl := hl ok
    refine Or.inl ⟨⟨ok, o1, RB_of o1 rs⟩, ⟨by rw [x0]; exact o5, Fr.rf⟩, ⟨y1, trivial⟩, ⟨y2, y3⟩, ⟨by show _ + ((0 : Nat) : Int) + 3 ≤ _; omega, by omega⟩, ⟨?_, by show ((0 : Nat) : Int) ≤ _; omega⟩, fun j j1 j2 => ?_, fun i hi => absurd hi (Nat.not_lt_zero _)⟩
    · rw [xi 50 (by omega) (by omega) (by omega), l2]; show _ = _ - ((0 : Nat) : Int); omega
    · have j2 : j < g (v + 33) 1 - ((0 : Nat) : Int) := j2
      rw [x2]
      exact l3 j j1 (by omega)
  · exact Or.inr ⟨⟨ok, o1, rs⟩, ⟨by rw [x0]; exact o5, Fr.rf⟩, by rw [xi 50 (by omega) (by omega) (by omega)]; exact o8⟩
theorem nRw {j i : Int} (h1 : 313 ≤ j) (h2 : j ≠ 322) (h3 : j ≠ 323) : ¬ RwK j i := by unfold RwK MsK; omega
theorem nR48 : ¬ RwK 282 48 := by unfold RwK MsK; omega
theorem nSc {j i : Int} (hv : v = 5 ∨ v = 46) (h : (v ≤ j ∧ j ≤ v + 32) ∨ (v + 34 ≤ j ∧ j ≤ v + 37)) : ¬ ScK v j i := by unfold ScK; omega
theorem Nc_sc (hv : v = 5 ∨ v = 46) (hF : Fr (ScK v) g g') (hN : Nc v g h) : Nc v g' h := by
  have f : ∀ j i, ¬ ScK v j i → g' j i = g j i := hF
  have r : ∀ j, v ≤ j → j ≤ v + 3 → g' j = g j := fun j j1 j2 => funext fun i => f j i (by unfold ScK; omega)
  unfold Nc
  rw [r v (by omega) (by omega), r (v + 1) (by omega) (by omega), r (v + 2) (by omega) (by omega), r (v + 3) (by omega) (by omega)]
  exact hN
/-- behind a law: what the reference's heap is -/
def lawY (n : Int) (hb h6 Y : mmH) : Prop := (∀ i, Y 313 i = if i = 4 then n + 1 else hb 313 i) ∧ (∀ i, Y 326 i = if i = n then h6 282 50 else hb 326 i) ∧ (∀ j, j ≠ 326 → j ≠ 313 → Y j = h6 j) ∧ ∀ j i, ¬ RwK j i → ¬ ((j = 320 ∨ j = 321 ∨ j = 324 ∨ j = 325) ∧ i = n) → h6 j i = hb j i
theorem law_fr {n : Int} {hb h5 h6 : mmH} (F6 : ∀ j i, ¬ RwK j i → h6 j i = h5 j i) (hM : ∀ j i, ¬ RwK j i → ¬ ((j = 320 ∨ j = 321 ∨ j = 324) ∧ i = n) → H j i = hb j i) (e5 : h5 = mmS H 325 n (H 282 50)) : lawY n hb h6 (mmS (mmS h6 326 n (h6 282 50)) 313 4 (n + 1)) := by
  have fr : ∀ j i, ¬ RwK j i → ¬ ((j = 320 ∨ j = 321 ∨ j = 324 ∨ j = 325) ∧ i = n) → h6 j i = hb j i := fun j i q1 q2 => by
    rw [F6 j i q1, e5]
    by_cases z : j = 325
    · subst z
      rw [mmS_slot, if_neg (by omega)]
      exact hM _ _ q1 (by omega)
    · rw [mmS_cell z]
      exact hM _ _ q1 (by omega)
  refine ⟨fun i => ?_, fun i => ?_, fun j q1 q2 => by rw [mmS_row q2, mmS_row q1], fr⟩
  · rw [mmS_slot, mmS_cell (by decide)]
    split
    · rfl
    · exact fr 313 i (nRw (by decide) (by decide) (by decide)) (by omega)
  · rw [mmS_cell (by decide), mmS_slot]
    split
    · rfl
    · exact fr 326 i (nRw (by decide) (by decide) (by decide)) (by omega)
theorem law_scM {n : Int} {hb h6 Y : mmH} (hn : 0 ≤ n ∧ n < 8) (o6 : Fr ScM m hb) (L : lawY n hb h6 Y) : Fr ScM m Y := fun j i q => by
  obtain ⟨Z3, Z6, Z, fr⟩ := L
  have q' : ¬ ScM j i := q
  rw [← o6 j i q]
  have nr : ¬ RwK j i := fun z => q' (by unfold RwK MsK at z; unfold ScM; omega)
  by_cases y3 : j = 313
  · subst y3
    rw [Z3, if_neg (fun z => q' (ScM_r _ _ (by omega)))]
  · by_cases y6 : j = 326
    · subst y6
      rw [Z6, if_neg (fun z => q' (ScM_r _ _ (by omega)))]
    · rw [Z j y6 y3]
      exact fr j i nr (fun z => q' (ScM_r _ _ (by omega)))
theorem law_Nc {n : Int} {hb h6 Y D gB : mmH} (hv : v = 5 ∨ v = 46) (fD : Fr (ScK v) gB D) (L : lawY n hb h6 Y) (o4 : Nc v gB hb) : Nc v D Y := by
  obtain ⟨Z3, Z6, Z, fr⟩ := L
  have N := Nc_sc hv fD o4
  have y14 : Y 314 = hb 314 := by
    rw [Z 314 (by decide) (by decide)]
    exact funext fun i => fr 314 i (nRw (by decide) (by decide) (by decide)) (by omega)
  have y31 : ∀ i, i ≠ 4 → Y 313 i = hb 313 i := fun i q => by rw [Z3, if_neg q]
  unfold Nc at N ⊢
  rw [y14, y31 0 (by decide), y31 1 (by decide), y31 2 (by decide)]
  exact N
theorem law_TT {n o t0 t1 bar : Int} {hb h6 Y D gB : mmH} (hv : v = 5 ∨ v = 46) (T : Tz v gB hb) (hn : n < 8) (en : gB (v + 33) 0 = n) (et : gB (v + 33) 1 = t0) (zt : 0 ≤ t0) (t01 : t0 ≤ t1) (hD2 : t1 ≤ D (v + 33) 1) (fD : ∀ j i, ¬ ScK v j i → D j i = gB j i) (D38 : ∀ j, j < t0 → D (v + 38) j = gB (v + 38) j) (hbar : (bar = 0 ∧ chkR (D (v + 38)) (t1 - t0).toNat t0 [] = some [false]) ∨ (bar = 1 ∧ t0 = t1)) (hck : chkR (D (v + 38)) (D (v + 33) 1 - t1).toNat t1 [] = some [true]) (L : lawY n hb h6 Y)
    (a1 : h6 320 n = o) (a2 : h6 321 n = bar) (a3 : h6 324 n = t0) (a4 : h6 325 n = t1) (a5 : h6 282 50 = D (v + 33) 1) (a6 : ∀ j, 0 ≤ j → j < D (v + 33) 1 → h6 322 j = codeOf (D (v + 38) j)) : Tz v (adW v o t0 t1 D) Y := by
  obtain ⟨Z3, Z6, Z, fr⟩ := L
  have en2 : D (v + 33) 0 = n := by rw [fD _ _ (by unfold ScK; omega), en]
  refine Tz_law (bar := bar) (t2 := D (v + 33) 1) (n := n) hv T en hn et rfl en2 zt t01 hD2 (fun j j1 j2 j3 j4 => funext fun i => fD j i (by unfold ScK; omega)) D38 hbar hck (fun j j1 j2 j3 => funext fun i => ?_) Z3 (fun i => ?_) (fun i => ?_) (fun i => ?_) (fun i => ?_) (fun i => ?_) ?_ (fun j j1 j2 => ?_)
  · rw [Z j (by omega) (by omega)]
    exact fr j i (nRw (by omega) (by omega) (by omega)) (by omega)
  · rw [Z 320 (by decide) (by decide)]
    split
    · next c => rw [c]; exact a1
    · exact fr 320 i (nRw (by decide) (by decide) (by decide)) (by omega)
  · rw [Z 321 (by decide) (by decide)]
    split
    · next c => rw [c]; exact a2
    · exact fr 321 i (nRw (by decide) (by decide) (by decide)) (by omega)
  · rw [Z 324 (by decide) (by decide)]
    split
    · next c => rw [c]; exact a3
    · exact fr 324 i (nRw (by decide) (by decide) (by decide)) (by omega)
  · rw [Z 325 (by decide) (by decide)]
    split
    · next c => rw [c]; exact a4
    · exact fr 325 i (nRw (by decide) (by decide) (by decide)) (by omega)
  · rw [Z6]
    split
    · exact a5
    · rfl
  · rw [Z 282 (by decide) (by decide)]; exact a5
  · rw [Z 322 (by decide) (by decide)]
    exact a6 j j1 j2
theorem adW_rows {o t0 t1 : Int} {D : mmH} (hv : v = 5 ∨ v = 46) : (∀ j, j < v + 33 ∨ v + 37 < j → adW v o t0 t1 D j = D j) ∧ adW v o t0 t1 D (v + 33) 1 = D (v + 33) 1 := by
  refine ⟨fun j q => ?_, ?_⟩
  · unfold adW
    split
    · rw [mmS_row (by omega), mmS_row (by omega), mmS_row (by omega), mmS_row (by omega), mmS_row (by omega)]
    · rfl
  · unfold adW
    split
    · rw [mmS_slot, if_neg (by omega), mmS_cell (by omega), mmS_cell (by omega), mmS_cell (by omega), mmS_cell (by omega)]
    · rfl
theorem law_good {n t0 bar o : Int} {hb : mmH} {gB C D : mmH} {h5 h6 Y : mmH} (hv : v = 5 ∨ v = 46) (hn : 0 ≤ n ∧ n < 8) (hO : SO True v n0 z0 k m gB hb) (en : gB (v + 33) 0 = n) (et : gB (v + 33) 1 = t0) (okB : gB 3 0 = 0) (fD : Fr (ScK v) gB D)
    (hA : Adv v gB G ∨ G = gB) (hAb : (bar = 0 ∧ chkR (G (v + 38)) (G (v + 33) 1 - t0).toNat t0 [] = some [false]) ∨ (bar = 1 ∧ t0 = G (v + 33) 1)) (RJ : RW v n0 z0 3 0 0 h5 D h6 [] []) (pt : G 3 4 ≤ C 3 4 ∧ C (v + 33) 1 = G (v + 33) 1 ∧ ∀ j, C (v + 38) j = G (v + 38) j) (A : Adv v C D) (hck : chkR (D (v + 38)) (D (v + 33) 1 - C (v + 33) 1).toNat (C (v + 33) 1) [] = some [true]) (L : lawY n hb h6 Y)
    (w0 : h6 320 n = o) (w1 : h6 321 n = bar) (w4 : h6 324 n = t0) (w5 : h6 325 n = G (v + 33) 1) : SE v n0 z0 k m (adW v o t0 (C (v + 33) 1) D) Y := by
  obtain ⟨⟨o1, o2⟩, o3, o4, ⟨o5, o6⟩, o7, o8, o9⟩ := hO
  have bd := RW_bd RJ
  have bdl : ((([] : List Int).length : Nat) : Int) = 0 := rfl
  rw [bdl] at bd
  obtain ⟨b1, b2, b3, b4, -, b6, -⟩ := bd
  have t01 : t0 ≤ G (v + 33) 1 ∧ ∀ j, j < t0 → G (v + 38) j = gB (v + 38) j := by
    rcases hA with q | q
    · exact ⟨by rw [← et]; exact q.2.2.1, fun j j1 => q.2.2.2.2 j (by rw [et]; exact j1)⟩
    · rw [q, et]; exact ⟨Int.le_refl _, fun _ _ => rfl⟩
  have D38 : ∀ j, j < G (v + 33) 1 → D (v + 38) j = G (v + 38) j := fun j j1 => by
    rw [A.2.2.2.2 j (by rw [pt.2.1]; exact j1), pt.2.2 j]
  have zt := o1.2.2.2.1.1
  rw [et] at zt
  have e50 : h6 282 50 = D (v + 33) 1 := by rw [b6]; show _ - ((0 : Nat) : Int) = _; omega
  have TT : Tz v (adW v o t0 (C (v + 33) 1) D) Y := by
    refine law_TT (bar := bar) (t1 := C (v + 33) 1) hv (o3 okB).1 hn.2 en et zt (by rw [pt.2.1]; exact t01.1) A.2.2.1 fD (fun j j1 => ?_) ?_ hck L w0 w1 w4 (by rw [pt.2.1]; exact w5) e50 (fun j j1 j2 => ?_)
    · rw [D38 j (Int.lt_of_lt_of_le j1 t01.1), t01.2 j j1]
    · rw [pt.2.1]
      rcases hAb with ⟨q1, q2⟩ | q
      · refine Or.inl ⟨q1, ?_⟩
        rw [← q2]
        exact chkR_congr _ _ _ (fun j j1 j2 => D38 j (by have := t01.1; omega))
      · exact Or.inr q
    · refine RJ.2.2.2.2.2.2.1 j j1 ?_
      show j < _ - ((0 : Nat) : Int)
      omega
  obtain ⟨aw, aw33⟩ := adW_rows (o := o) (t0 := t0) (t1 := C (v + 33) 1) (D := D) hv
  have SD : Sc v (adW v o t0 (C (v + 33) 1) D) := by
    unfold Sc
    rw [aw 3 (Or.inl (by omega)), aw 2 (Or.inl (by omega)), aw 45 (by omega), aw33]
    exact RJ.1.2.1
  obtain ⟨g0, s0, k0, r0⟩ := RB_to hv RJ.1.2.2 RJ.1.2.1 (aw 2 (Or.inl (by omega))) (aw 3 (Or.inl (by omega))) SD
  have L' := L
  obtain ⟨Z3, Z6, Z, fr⟩ := L'
  have z282 := Z 282 (by decide) (by decide)
  have z0' : Y 0 = h6 0 := Z 0 (by decide) (by decide)
  have nm : Y 0 0 = n0 ∧ Y 0 1 = z0 := by rw [z0']; exact RJ.2.1.1
  have y48 : Y 282 48 = k := by rw [z282, fr 282 48 nR48 (by omega)]; exact o7
  have y3 : (0 ≤ Y 313 3 ∧ Y 313 3 ≤ 20) ∧ (0 ≤ Y 313 4 ∧ Y 313 4 ≤ 8) := by
    rw [Z3, Z3, if_neg (by decide), if_pos rfl]
    exact ⟨o9.1, by omega, by omega⟩
  refine ⟨g0, ⟨s0, k0, RS_w (RS_out r0 (fun _ _ _ => rfl) (fun j i q => ?_))⟩, SD, fun _ => ⟨TT, ?_⟩, Tz_Nc TT, ⟨nm, law_scM hn o6 L⟩, y48, ?_, y3⟩
  · rw [Z j (by omega) (by omega)]
  · rw [aw33, aw 3 (Or.inl (by omega))]; omega
  · rw [z282, e50]; omega
theorem law_bad {n : Int} {hb : mmH} {gB D : mmH} {h5 h6 Y : mmH} (hv : v = 5 ∨ v = 46) (hn : 0 ≤ n ∧ n < 8) (hO : SO True v n0 z0 k m gB hb) (bad : D 3 0 ≠ 0) (fD : Fr (ScK v) gB D) (BJ : BD v n0 z0 1600 h5 D h6) (L : lawY n hb h6 Y) : SE v n0 z0 k m D Y := by
  obtain ⟨⟨o1, o2⟩, o3, o4, ⟨o5, o6⟩, o7, o8, o9⟩ := hO
  have L' := L
  obtain ⟨Z3, Z6, Z, fr⟩ := L'
  have z282 := Z 282 (by decide) (by decide)
  have z0' : Y 0 = h6 0 := Z 0 (by decide) (by decide)
  have nm : Y 0 0 = n0 ∧ Y 0 1 = z0 := by rw [z0']; exact BJ.2.1.1
  have y48 : Y 282 48 = k := by rw [z282, fr 282 48 nR48 (by omega)]; exact o7
  have y3 : (0 ≤ Y 313 3 ∧ Y 313 3 ≤ 20) ∧ (0 ≤ Y 313 4 ∧ Y 313 4 ≤ 8) := by
    rw [Z3, Z3, if_neg (by decide), if_pos rfl]
    exact ⟨o9.1, by omega, by omega⟩
  refine ⟨_, ⟨BJ.1.2.1, rfl, RS_w (RS_out BJ.1.2.2 (fun _ _ _ => rfl) (fun j i q => ?_))⟩, BJ.1.2.1, fun z => absurd z bad, law_Nc hv fD L o4, ⟨nm, law_scM hn o6 L⟩, y48, by rw [z282]; exact BJ.2.2, y3⟩
  rw [Z j (by omega) (by omega)]
theorem law_end {n t0 bar o : Int} {hb : mmH} {gB C D : mmH} {h5 h6 : mmH} (hv : v = 5 ∨ v = 46) (hCk : Stk G C) (hCf : Fr (ScK v) G C) (hCp : Sc v G → Plain v G C ∧ Sc v C) (hDk : Stk C D) (hDf : Fr (ScK v) C D) (hDa : Sc v C → C (v + 33) 1 ≤ C 3 4 → AdT v 38 true C D) (hn : 0 ≤ n ∧ n < 8) (hO : SO True v n0 z0 k m gB hb) (en : gB (v + 33) 0 = n) (et : gB (v + 33) 1 = t0) (hG : Fr (ScK v) gB G) (hGs : Stk gB G) (hA : G 3 0 = 0 → Adv v gB G ∨ G = gB) (hAb : G 3 0 = 0 → (bar = 0 ∧ chkR (G (v + 38)) (G (v + 33) 1 - t0).toNat t0 [] = some [false]) ∨ (bar = 1 ∧ t0 = G (v + 33) 1))
    (hJ0 : J v n0 z0 M G H) (hM : ∀ j i, ¬ RwK j i → ¬ ((j = 320 ∨ j = 321 ∨ j = 324) ∧ i = n) → H j i = hb j i) (w0 : H 320 n = o) (w1 : H 321 n = bar) (w4 : G 3 0 = 0 → H 324 n = t0) (hJ : J v n0 z0 h5 D h6) (e5 : h5 = mmS H 325 n (H 282 50)) :
    SE v n0 z0 k m (okE D (adW v o t0 (C (v + 33) 1) D)) (mmS (mmS h6 326 n (h6 282 50)) 313 4 (n + 1)) := by
  have F6 : ∀ j i, ¬ RwK j i → h6 j i = h5 j i := (J_nm hJ).2
  have L := law_fr (n := n) F6 hM e5
  have fD : Fr (ScK v) gB D := (hG.tr hCf).tr hDf
  by_cases ok : D 3 0 = 0
  · rw [okE_ok ok]
    have okC : C 3 0 = 0 := stk_back hDk ok
    have okG : G 3 0 = 0 := stk_back hCk okC
    have okB : gB 3 0 = 0 := stk_back hGs okG
    have RJ : RW v n0 z0 3 0 0 h5 D h6 [] [] := by
      rcases hJ with q | q
      · exact q
      · exact absurd ok q.1.1
    have RG : RW v n0 z0 3 0 0 M G H [] [] := by
      rcases hJ0 with q | q
      · exact q
      · exact absurd okG q.1.1
    have SG : Sc v G := RG.1.2.1
    have SC := (hCp SG).2
    have pt := (hCp SG).1 okC
    have bg := RW_bd RG
    have bdl : ((([] : List Int).length : Nat) : Int) = 0 := rfl
    rw [bdl] at bg
    have hDC : C (v + 33) 1 ≤ C 3 4 := by
      have z1 := bg.2.1
      have z2 := pt.2.1
      have z3 := pt.2.2.1
      clear hM F6 hJ hJ0 hAb hA hO L
      omega
    obtain ⟨A, Ty⟩ := hDa SC hDC ok
    have e50 : H 282 50 = G (v + 33) 1 := by
      have z := bg.2.2.2.2.2.1
      clear hM F6 hJ hJ0 hAb hA hO L
      rw [z]; show _ - ((0 : Nat) : Int) = _; omega
    have r : ∀ j, j ≠ 325 → 313 ≤ j → j ≠ 322 → j ≠ 323 → h6 j n = H j n := fun j q q1 q2 q3 => by
      rw [F6 j n (nRw q1 q2 q3), e5, mmS_cell q]
    refine law_good (G := G) (C := C) (bar := bar) hv hn hO en et okB fD (hA okG) (hAb okG) RJ pt.2 A (Ty [] (by simp)) L ((r 320 (by decide) (by decide) (by decide) (by decide)).trans w0) ((r 321 (by decide) (by decide) (by decide) (by decide)).trans w1) ((r 324 (by decide) (by decide) (by decide) (by decide)).trans (w4 okG)) ?_
    rw [F6 325 n (nRw (by decide) (by decide) (by decide)), e5, mmS_slot, if_pos rfl, e50]
  · rw [okE_bad ok]
    have BJ : BD v n0 z0 1600 h5 D h6 := by
      rcases hJ with q | q
      · exact absurd q.1.1 ok
      · exact q
    exact law_bad hv hn hO ok fD BJ L
end LX
