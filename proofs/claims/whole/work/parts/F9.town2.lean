/-! ===== mm: a town told, coupled again ===== -/
section TP
variable {d e : Nat} {u v n0 z0 k : Int} {m g g' g1 h h' E : mmH} {Q : Int → mmH → Prop}
/-- behind a town with a fault: the old one stands -/
theorem Cy_told (hu : u = 5 ∨ u = 46) (hv : v = 51 - u) (hF : Fr (fun k i => k = 3 ∨ (k = 1 ∧ i = 1) ∨ (v ≤ k ∧ k ≤ v + 38)) g E) (hG : Fr (fun k i => ScM k i ∨ (k = 282 ∧ (i = 1 ∨ i = 7 ∨ i = 8))) h h') (z : E 1 1 = 0) (z2 : h' 282 1 = 0) (fa : cFault E h') (hC : Cy u g h) : Cy u E h' := by
  have f : ∀ k i, ¬ (k = 3 ∨ (k = 1 ∧ i = 1) ∨ (v ≤ k ∧ k ≤ v + 38)) → E k i = g k i := hF
  have fk : ∀ k, (∀ i : Int, ¬ (k = 3 ∨ (k = 1 ∧ i = 1) ∨ (v ≤ k ∧ k ≤ v + 38))) → E k = g k := fun k q => funext fun i => f k i (q i)
  have mm : ∀ k i, ¬ (ScM k i ∨ (k = 282 ∧ (i = 1 ∨ i = 7 ∨ i = 8))) → h' k i = h k i := hG
  have mk : ∀ k, (∀ i : Int, ¬ (ScM k i ∨ (k = 282 ∧ (i = 1 ∨ i = 7 ∨ i = 8)))) → h' k = h k := fun k q => funext fun i => mm k i (q i)
  obtain ⟨⟨cT, cP, cTp, cS, cSh, cF, cO⟩, cN⟩ := hC
  have e0 := f u 0 (by omega)
  have e1 := f u 1 (by omega)
  have e3 := f u 3 (by omega)
  refine ⟨⟨Tn_frT (fun k i k1 k2 k3 => f k i (by omega)) (Tn_frM (fun k i q => mm k i (by unfold TnM at q; unfold ScM; omega)) cT), ?_, ?_, ?_, ?_, fa, ?_⟩, ?_⟩
  · obtain ⟨p1, p2, p3⟩ := cP
    unfold Pst
    rw [f 1 6 (by omega), f 1 7 (by omega), mm 282 67 (by unfold ScM; omega), mm 282 68 (by unfold ScM; omega)]
    exact ⟨p1, p2, fun i i1 i2 => Nw_eq e0 e1 e3 (mk _ (fun i => by unfold ScM; omega)) (fun k k1 k2 => fk k (fun i => by omega)) (p3 i i1 i2)⟩
  · unfold cTape
    rw [z, z2, fk 2 (fun i => by omega), mk 283 (fun i => by unfold ScM; omega)]
    exact ⟨⟨rfl, by omega⟩, cTp.2⟩
  · unfold cSeed
    rw [f 1 8 (by omega), mm 282 69 (by unfold ScM; omega)]
    exact cS
  · unfold cShot
    rw [f 1 11 (by omega), fk 101 (fun i => by omega), mm 282 71 (by unfold ScM; omega), mk 335 (fun i => by unfold ScM; omega)]
    exact cSh
  · unfold cOwn
    rw [fk 45 (fun i => by omega)]
    exact cO
  · exact Nw_eq e0 e1 e3 (mk _ (fun i => by unfold ScM; omega)) (fun k k1 k2 => fk k (fun i => by omega)) cN
/-- behind a town told: it stands -/
theorem Cy_stands {h4 g2 : mmH} (hu : u = 5 ∨ u = 46) (hv : v = 51 - u) (hF : Fr (fun k i => k = 3 ∨ (k = 1 ∧ i = 1) ∨ (v ≤ k ∧ k ≤ v + 38)) g E) (hG : Fr (fun k i => ScM k i ∨ (k = 282 ∧ (i = 1 ∨ i = 7 ∨ i = 8))) h h4) (z : E 1 1 = 0) (z2 : h4 282 1 = 0) (fa : cFault E h4) (hT : Tz v E h4) (hl : E (v + 33) 1 ≤ 1600) (hS : Stnd h4 h') (hb : bgnd v (mmS (mmS E 3 7 u) 1 3 v) g2) (hC : Cy u g h) : Cy v (mmS g2 1 7 0) h' := by
  have f : ∀ k i, ¬ (k = 3 ∨ (k = 1 ∧ i = 1) ∨ (v ≤ k ∧ k ≤ v + 38)) → E k i = g k i := hF
  have mm : ∀ k i, ¬ (ScM k i ∨ (k = 282 ∧ (i = 1 ∨ i = 7 ∨ i = 8))) → h4 k i = h k i := hG
  have T1 := Tn_stands (by omega) hT hl hS
  obtain ⟨⟨⟨a0, a1, a2, a3, a4⟩, ⟨n0, n1, n3, n2, n4⟩, -⟩, tl, tp, -⟩ := hT
  obtain ⟨sF, -, -, -, -, ⟨sl, sp, sz⟩, s67⟩ := hS
  have fs : ∀ k i, ¬ (TnM k i ∨ k = 329 ∨ (k = 282 ∧ i = 67)) → h' k i = h4 k i := sF
  obtain ⟨b0, b1, b2, b3, b4, b5, b6⟩ := hb
  have fb : ∀ k i, ¬ (86 ≤ k ∧ k ≤ 90) → g2 k i = mmS (mmS E 3 7 u) 1 3 v k i := b0
  have G : ∀ k i, k ≠ 1 → k ≠ 3 → ¬ (86 ≤ k ∧ k ≤ 90) → mmS g2 1 7 0 k i = E k i := fun k i q1 q2 q3 => by rw [mmS_cell q1, fb k i q3, mmS_cell q1, mmS_cell q2]
  have G1 : ∀ i, i ≠ 7 → i ≠ 3 → mmS g2 1 7 0 1 i = E 1 i := fun i q1 q2 => by rw [mmS_slot, if_neg q1, fb 1 i (by omega), mmS_slot, if_neg q2, mmS_cell (by decide)]
  have G3 : ∀ i, i ≠ 7 → mmS g2 1 7 0 3 i = E 3 i := fun i q1 => by rw [mmS_cell (by decide), fb 3 i (by omega), mmS_cell (by decide), mmS_slot, if_neg q1]
  have G7 : mmS g2 1 7 0 1 7 = 0 := by rw [mmS_slot, if_pos rfl]
  have Gb : ∀ k i, k ≠ 1 → mmS g2 1 7 0 k i = g2 k i := fun k i q => mmS_cell q
  have ev : ∀ k i, k ≠ 1 → k ≠ 3 → mmS (mmS E 3 7 u) 1 3 v k i = E k i := fun k i q1 q2 => by rw [mmS_cell q1, mmS_cell q2]
  rw [ev v 1 (by omega) (by omega)] at b4
  rw [ev v 3 (by omega) (by omega)] at b5
  generalize mmS g2 1 7 0 = X at G G1 G3 G7 Gb
  obtain ⟨⟨cT, ⟨-, p2, -⟩, cTp, cS, cSh, cF, cO⟩, -⟩ := hC
  refine ⟨⟨Tn_frT (fun k i k1 k2 k3 => G k i (by omega) (by omega) (by omega)) T1, ⟨⟨?_, ?_⟩, ⟨?_, ?_⟩, fun i i1 i2 => ?_⟩, ⟨⟨?_, ?_⟩, fun i i1 i2 => ?_⟩, ?_, ?_, ?_, ?_⟩, ?_⟩
  · rw [s67, G7]
  · rw [G7]; omega
  · rw [fs 282 68 (by unfold TnM; omega), mm 282 68 (by unfold ScM; omega), G1 6 (by omega) (by omega), f 1 6 (by omega)]; exact p2.1
  · rw [G1 6 (by omega) (by omega), f 1 6 (by omega)]; exact p2.2
  · rw [G7] at i2; omega
  · rw [fs 282 1 (by unfold TnM; omega), z2, G1 1 (by omega) (by omega), z]
  · rw [G1 1 (by omega) (by omega), z]; omega
  · rw [fs 283 i (by unfold TnM; omega), mm 283 i (by unfold ScM; omega), G 2 i (by omega) (by omega) (by omega), f 2 i (by omega)]; exact cTp.2 i i1 i2
  · unfold cSeed at cS ⊢
    rw [G1 8 (by omega) (by omega), f 1 8 (by omega), fs 282 69 (by unfold TnM; omega), mm 282 69 (by unfold ScM; omega)]; exact cS
  · unfold cShot at cSh ⊢
    rw [G1 11 (by omega) (by omega), f 1 11 (by omega), fs 282 71 (by unfold TnM; omega), mm 282 71 (by unfold ScM; omega)]
    refine ⟨cSh.1, fun k k1 k2 => ?_⟩
    rw [G 101 k (by omega) (by omega) (by omega), f 101 k (by omega), fs 335 k (by unfold TnM; omega), mm 335 k (by unfold ScM; omega)]; exact cSh.2 k k1 k2
  · unfold cFault at fa ⊢
    rw [G3 0 (by omega), G3 1 (by omega), fs 282 7 (by unfold TnM; omega), fs 282 8 (by unfold TnM; omega)]; exact fa
  · unfold cOwn at cO ⊢
    intro k k1 k2
    rw [G 45 k (by omega) (by omega) (by omega), f 45 k (by omega)]; exact cO k k1 k2
  · rw [← a1] at b4
    unfold Nw
    simp only [Int.reduceAdd, Int.zero_add]
    have v0 := G v 0 (by omega) (by omega) (by omega)
    have v1 := G v 1 (by omega) (by omega) (by omega)
    have v3 := G v 3 (by omega) (by omega) (by omega)
    have c0 : X 86 0 = 0 := by rw [Gb _ _ (by decide), b1]
    have c1 : X 86 1 = 0 := by rw [Gb _ _ (by decide), b2]
    have c2 : X 86 2 = 0 := by rw [Gb _ _ (by decide), b3]
    rw [v0, v1, v3, c0, c1, c2, sz 0 (by omega), sz 1 (by omega), sz 29 (by omega)]
    refine ⟨⟨rfl, by omega, by omega⟩, ⟨rfl, by omega, by omega⟩, ⟨rfl, by omega, by omega⟩, fun l l1 l2 => ?_, fun p p1 p2 => ?_, fun q q1 q2 => ?_, fun k k1 k2 => by omega⟩
    · have t := (tl l l1 l2).2.2.1
      rw [sl l l1 (by omega), Gb _ _ (by decide), b4 l l1 (by omega), ev _ _ (by omega) (by omega)]
      exact t
    · obtain ⟨t1, -, -, -, -, t2, t3, t4⟩ := tp p p1 p2
      have q4 := t1 4 (by omega) (by omega)
      have q5 := t1 5 (by omega) (by omega)
      obtain ⟨r1, r2⟩ := b5 p p1 p2
      rw [ev _ _ (by omega) (by omega)] at r1 r2
      rw [(sp p p1 (by omega)).1, (sp p p1 (by omega)).2, Gb _ _ (by decide), Gb _ _ (by decide), r1, r2]
      exact ⟨q4, q5, t2, t3, t4⟩
    · rw [sz _ (by omega), Gb _ _ (by decide), b6 q q1 (by omega)]
set_option maxHeartbeats 2000000 in
theorem b_town {x u' : Int} (hu : u = 5 ∨ u = 46) (hv : v = 51 - u) (hC : Cy u g h) (hp : townP u v g x g' u') (hy : ∀ h', Fr (fun k _ => 282 ≤ k) h h' → Cy u' g' h' → Q x h') : qC tFM (d + 12) k_m_town [282] h Q := by
  have hv' : v = 5 ∨ v = 46 := by omega
  obtain ⟨g1, ho, hc⟩ := hp
  have S0 := St_open hv' hu hC ho
  refine t_open (d := d + 11) (fun h2 hM => t_loop hv' 80 0 False _ h2 (by omega) (by omega) (SO_open hv' hu hC ho hM) (fun h3 O3 => ?_))
  have eE : clsH (lpH v 80 (mmS g1 1 1 0)) = eoT v (mmS g1 1 1 0) := rfl
  rw [eE, Int.zero_add] at O3
  have FE : Fr (TK v) (mmS g1 1 1 0) (eoT v (mmS g1 1 1 0)) := ft_eo hv' S0
  have fe : ∀ k i, ¬ TK v k i → eoT v (mmS g1 1 1 0) k i = mmS g1 1 1 0 k i := FE
  generalize eoT v (mmS g1 1 1 0) = E at hc O3 FE fe
  generalize cnH v 80 (mmS g1 1 1 0) = c at hc O3
  have hF : Fr (fun k i => k = 3 ∨ (k = 1 ∧ i = 1) ∨ (v ≤ k ∧ k ≤ v + 38)) g E := ((ho.1.mono (fun k i q => by omega)).put (Or.inr (Or.inl ⟨rfl, rfl⟩))).tr (FE.mono (fun k i q => by unfold TK ScK at q; omega))
  have z1 : E 1 1 = 0 := by rw [fe 1 1 (by unfold TK ScK; omega), mmS_slot, if_pos rfl]
  have k5 : h3 282 5 = E 3 0 := SO_5 O3
  have k6 : h3 282 6 = E 3 1 := O3.1.2.2.1
  have F3 : Fr ScM (mmS h 282 1 0) h3 := O3.2.2.2.1.2
  have f3 : ∀ k i, ¬ ScM k i → h3 k i = mmS h 282 1 0 k i := F3
  have y0 : mmS (mmS h3 282 7 (h3 282 5)) 282 8 (h3 282 6) 282 7 = E 3 0 ∧ mmS (mmS h3 282 7 (h3 282 5)) 282 8 (h3 282 6) 282 8 = E 3 1 := by
    constructor
    · rw [mmS_slot, if_neg (by decide), mmS_slot, if_pos rfl]; exact k5
    · rw [mmS_slot, if_pos rfl]; exact k6
  have y1 : ∀ k i, ¬ (k = 282 ∧ (i = 7 ∨ i = 8)) → mmS (mmS h3 282 7 (h3 282 5)) 282 8 (h3 282 6) k i = h3 k i := fun k i q => by
    by_cases q1 : k = 282
    · subst q1; rw [mmS_slot, if_neg (by omega), mmS_slot, if_neg (by omega)]
    · rw [mmS_cell q1, mmS_cell q1]
  have G4 : Fr (fun k i => ScM k i ∨ (k = 282 ∧ (i = 1 ∨ i = 7 ∨ i = 8))) h (mmS (mmS h3 282 7 (h3 282 5)) 282 8 (h3 282 6)) := (((Fr.rf.put (Or.inr ⟨rfl, Or.inl rfl⟩)).tr (F3.mono (fun k i q => Or.inl q))).put (Or.inr ⟨rfl, Or.inr (Or.inl rfl)⟩)).put (Or.inr ⟨rfl, Or.inr (Or.inr rfl)⟩)
  have y2 : mmS (mmS h3 282 7 (h3 282 5)) 282 8 (h3 282 6) 282 1 = 0 := by rw [y1 _ _ (by omega), f3 _ _ (by unfold ScM; omega), mmS_slot, if_pos rfl]
  refine T_m_town_3 _ _ _ _ _ _ ?_
  generalize mmS (mmS h3 282 7 (h3 282 5)) 282 8 (h3 282 6) = h4 at y0 y1 y2 G4
  have f4 : Fr (fun k _ => 282 ≤ k) h h4 := G4.mono (fun k i q => by unfold ScM at q; omega)
  rcases hc with ⟨bad, ex, eg, eu⟩ | ⟨ok, ex, ⟨g2, hb, eg⟩, eu⟩
  · subst ex eg eu
    exact ⟨fun q => absurd (k5.symm.trans q) bad, fun _ => hy h4 f4 (Cy_told hu hv hF G4 z1 y2 ⟨y0.1, y0.2⟩ hC)⟩
  · subst ex eg eu
    refine ⟨fun _ => ?_, fun q => absurd (k5.trans ok) q⟩
    obtain ⟨T3, tk3⟩ := O3.2.1 ok
    have T4 : Tz u' E h4 := Tz_fr hv' R3.rf (fun j q => funext fun i => y1 j i (by omega)) (y1 _ _ (by omega)) T3
    have sb := O3.1.1.2.1
    have a1 := T4.1.1.2.1
    have a2 := T4.1.1.2.2.1
    have b1 := T4.1.2.1.2.1
    have b2 := T4.1.2.1.2.2.1
    have o8 := O3.2.2.2.2.2.1
    have e50 : h4 282 50 = h3 282 50 := y1 _ _ (by omega)
    refine qC_le (d := 1) (by omega) (q_m_stands (by omega) (by omega) (by omega) (fun h5 hS => ?_))
    have fs : ∀ k i, ¬ (TnM k i ∨ k = 329 ∨ (k = 282 ∧ i = 67)) → h5 k i = h4 k i := hS.1
    have e48 : h5 282 48 = x := by rw [fs _ _ (by unfold TnM; omega), y1 _ _ (by omega)]; exact O3.2.2.2.2.1
    rw [e48]
    exact hy h5 (f4.tr (hS.1.mono (fun k i q => by unfold TnM at q; omega))) (Cy_stands hu hv hF G4 z1 y2 ⟨y0.1, y0.2⟩ T4 (by omega) hS hb hC)
end TP
