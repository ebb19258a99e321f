/-! ===== mm: names, the reference ===== -/
theorem ltrs_snoc (B : Int → Int) : ∀ (m : Nat) (i : Int), ltrs B i (m + 1) = ltrs B i m ++ [B (i + m) - 96]
  | 0, i => by
    show [B i - 96] = [B (i + ((0 : Nat) : Int)) - 96]
    rw [show i + ((0 : Nat) : Int) = i by omega]
  | m + 1, i => by
    show (B i - 96) :: ltrs B (i + 1) (m + 1) = (B i - 96) :: (ltrs B (i + 1) m ++ [_])
    rw [ltrs_snoc B m (i + 1), show i + 1 + (m : Int) = i + ((m + 1 : Nat) : Int) by omega]
def Nc (v : Int) (g h : mmH) : Prop := (h 313 0 = g v 0 ∧ 0 ≤ g v 0 ∧ g v 0 ≤ 5) ∧ (h 313 1 = g v 1 ∧ 0 ≤ g v 1 ∧ g v 1 ≤ 10) ∧ (h 313 2 = g v 3 ∧ 0 ≤ g v 3 ∧ g v 3 ≤ 6) ∧ (∀ k, 0 ≤ k → k < g v 0 → nmR (g (v + 1) k) (h 314 k)) ∧ (∀ k, 0 ≤ k → k < g v 1 → nmR (g (v + 2) k) (h 314 (10 + k))) ∧ (∀ k, 0 ≤ k → k < g v 3 → nmR (g (v + 3) k) (h 314 (20 + k)))
section NM
variable {d : Nat} {P : Prop} {v : Int} {g g' h h' m : mmH} {Q : Int → mmH → Prop}
theorem Nc_fr (hv : v = 5 ∨ v = 46) (hF : Fr (ScK v) g g') (hG : Fr MsK h h') (hN : Nc v g h) : Nc v g' h' := by
  have f : ∀ k i, ¬ ScK v k i → g' k i = g k i := hF
  have q : ∀ k i, ¬ MsK k i → h' k i = h k i := hG
  unfold Nc
  rw [f v 0 (by unfold ScK; omega), f v 1 (by unfold ScK; omega), f v 3 (by unfold ScK; omega), q 313 0 (by unfold MsK; omega), q 313 1 (by unfold MsK; omega), q 313 2 (by unfold MsK; omega)]
  obtain ⟨a1, a2, a3, a4, a5, a6⟩ := hN
  refine ⟨a1, a2, a3, fun k k1 k2 => ?_, fun k k1 k2 => ?_, fun k k1 k2 => ?_⟩
  · rw [f _ _ (by unfold ScK; omega), q _ _ (by unfold MsK; omega)]; exact a4 k k1 k2
  · rw [f _ _ (by unfold ScK; omega), q _ _ (by unfold MsK; omega)]; exact a5 k k1 k2
  · rw [f _ _ (by unfold ScK; omega), q _ _ (by unfold MsK; omega)]; exact a6 k k1 k2
/-- a word here, where blanks are behind -/
theorem q_hereS {k : Int} (hv : v = 5 ∨ v = 46) (k1 : 0 ≤ k) (k2 : k < 29) (hS : Sc v g) (hd : skd g) (ok : g 3 0 = 0) (hR : RS P g h) (hF : Fr MsK m h) (hy : ∀ x h', YN x (wdV g = k) → RS P g h' → Fr MsK m h' → Q x h') : qC tFM (d + 2) k_m_isHere [282, 284 + k] h Q := by
  refine q_m_isHere hv k1 k2 hS hR hF (fun x h' hx R F => ?_)
  rw [skd_id hd] at hx R
  exact hy x h' (hx.congr ⟨fun q => q.2, fun q => ⟨ok, q⟩⟩) R F
theorem q_m_isOwnHere (hv : v = 5 ∨ v = 46) (hS : Sc v g) (hd : skd g) (ok : g 3 0 = 0) (hR : RS P g h) (hF : Fr MsK m h) (hy : ∀ x h', YN x (wdV g ≠ -1) → RS P g h' → Fr MsK m h' → Q x h') : qC tFM (d + 3) k_m_isOwnHere [282] h Q := by
  have y12 : ∀ w h1, wdV g ≠ -1 → RS P g h1 → Fr MsK m h1 → qB tFM (d + 2) k_m_isOwnHere (h 0 0) (h 0 1) Q 12 [(3, 282), (1, w)] [(1, 1)] h1 := fun w h1 hw R F => T_m_isOwnHere_12 _ _ _ _ _ _ _ ⟨fun _ => hy _ _ (YN.yes hw) R F, fun c => absurd (by omega) c⟩
  have y9 : ∀ w h1, wdV g ≠ -1 → RS P g h1 → Fr MsK m h1 → qB tFM (d + 2) k_m_isOwnHere (h 0 0) (h 0 1) Q 9 [(3, 282), (1, w)] [(1, 1)] h1 := fun w h1 hw R F => T_m_isOwnHere_9 _ _ _ _ _ _ _ ⟨fun _ => y12 _ _ hw R F, fun c => absurd (by omega) c⟩
  have y6 : ∀ w h1, wdV g ≠ -1 → RS P g h1 → Fr MsK m h1 → qB tFM (d + 2) k_m_isOwnHere (h 0 0) (h 0 1) Q 6 [(3, 282), (1, w)] [(1, 1)] h1 := fun w h1 hw R F => T_m_isOwnHere_6 _ _ _ _ _ _ _ ⟨fun _ => y9 _ _ hw R F, fun c => absurd (by omega) c⟩
  have y3 : ∀ h1, wdV g ≠ -1 → RS P g h1 → Fr MsK m h1 → qB tFM (d + 2) k_m_isOwnHere (h 0 0) (h 0 1) Q 3 [(3, 282), (0, 0)] [(1, 1)] h1 := fun h1 hw R F => T_m_isOwnHere_3 _ _ _ _ _ _ ⟨fun _ => y6 _ _ hw R F, fun c => absurd (by omega) c⟩
  have n12 : ∀ w h1, (∀ j, 0 ≤ j → j < 24 → wdV g ≠ j) → RS P g h1 → Fr MsK m h1 → qB tFM (d + 2) k_m_isOwnHere (h 0 0) (h 0 1) Q 12 [(3, 282), (1, w)] [(1, 0)] h1 := fun w h1 hn R0 F0 => by
    refine T_m_isOwnHere_12 _ _ _ _ _ _ _ ⟨fun c => absurd rfl c, fun _ => q_hereS hv (by omega) (by omega) hS hd ok R0 F0 (fun x0 h0' hx0 R1 F1 => ⟨fun c0 => hy _ _ (YN.yes (by have := hx0.pos c0; omega)) R1 F1, fun c0 => q_hereS hv (by omega) (by omega) hS hd ok R1 F1 (fun x1 h1' hx1 R2 F2 => ⟨fun c1 => hy _ _ (YN.yes (by have := hx1.pos c1; omega)) R2 F2, fun c1 => q_hereS hv (by omega) (by omega) hS hd ok R2 F2 (fun x2 h2' hx2 R3 F3 => ⟨fun c2 => hy _ _ (YN.yes (by have := hx2.pos c2; omega)) R3 F3, fun c2 => q_hereS hv (by omega) (by omega) hS hd ok R3 F3 (fun x3 h3' hx3 R4 F4 => ⟨fun c3 => hy _ _ (YN.yes (by have := hx3.pos c3; omega)) R4 F4, fun c3 => q_hereS hv (by omega) (by omega) hS hd ok R4 F4 (fun x4 h4' hx4 R5 F5 => ⟨fun c4 => hy _ _ (YN.no (fun q => by
      rcases wd_rng (s := g) with z | ⟨z1, z2⟩
      · exact q z
      · exact (show ∀ j, 0 ≤ j → j < 29 → wdV g ≠ j from (fun j j1 j2 => by
      by_cases q : j < 24
      · exact hn j j1 q
      · intro e
        rcases (by omega : j = 24 ∨ j = 25 ∨ j = 26 ∨ j = 27 ∨ j = 28) with z | z | z | z | z
        · exact (hx0.neg (Decidable.of_not_not c0)) (by rw [e, z])
        · exact (hx1.neg (Decidable.of_not_not c1)) (by rw [e, z])
        · exact (hx2.neg (Decidable.of_not_not c2)) (by rw [e, z])
        · exact (hx3.neg (Decidable.of_not_not c3)) (by rw [e, z])
        · exact (hx4.neg c4) (by rw [e, z]))) (wdV g) z1 z2 rfl)) R5 F5, fun c4 => hy _ _ (YN.yes (by have := hx4.pos c4; omega)) R5 F5⟩) (k := 28)⟩) (k := 27)⟩) (k := 26)⟩) (k := 25)⟩) (k := 24)⟩
  have n9 : ∀ w h1, (∀ j, 0 ≤ j → j < 18 → wdV g ≠ j) → RS P g h1 → Fr MsK m h1 → qB tFM (d + 2) k_m_isOwnHere (h 0 0) (h 0 1) Q 9 [(3, 282), (1, w)] [(1, 0)] h1 := fun w h1 hn R0 F0 => by
    refine T_m_isOwnHere_9 _ _ _ _ _ _ _ ⟨fun c => absurd rfl c, fun _ => q_hereS hv (by omega) (by omega) hS hd ok R0 F0 (fun x0 h0' hx0 R1 F1 => ⟨fun c0 => y12 _ _ (by have := hx0.pos c0; omega) R1 F1, fun c0 => q_hereS hv (by omega) (by omega) hS hd ok R1 F1 (fun x1 h1' hx1 R2 F2 => ⟨fun c1 => y12 _ _ (by have := hx1.pos c1; omega) R2 F2, fun c1 => q_hereS hv (by omega) (by omega) hS hd ok R2 F2 (fun x2 h2' hx2 R3 F3 => ⟨fun c2 => y12 _ _ (by have := hx2.pos c2; omega) R3 F3, fun c2 => q_hereS hv (by omega) (by omega) hS hd ok R3 F3 (fun x3 h3' hx3 R4 F4 => T_m_isOwnHere_9_22 _ _ _ _ _ _ _ ⟨fun c3 => y12 _ _ (by have := hx3.pos c3; omega) R4 F4, fun c3 => q_hereS hv (by omega) (by omega) hS hd ok R4 F4 (fun x4 h4' hx4 R5 F5 => ⟨fun c4 => y12 _ _ (by have := hx4.pos c4; omega) R5 F5, fun c4 => q_hereS hv (by omega) (by omega) hS hd ok R5 F5 (fun x5 h5' hx5 R6 F6 => ⟨fun c5 => n12 _ _ (fun j j1 j2 => by
      by_cases q : j < 18
      · exact hn j j1 q
      · intro e
        rcases (by omega : j = 18 ∨ j = 19 ∨ j = 20 ∨ j = 21 ∨ j = 22 ∨ j = 23) with z | z | z | z | z | z
        · exact (hx0.neg (Decidable.of_not_not c0)) (by rw [e, z])
        · exact (hx1.neg (Decidable.of_not_not c1)) (by rw [e, z])
        · exact (hx2.neg (Decidable.of_not_not c2)) (by rw [e, z])
        · exact (hx3.neg (Decidable.of_not_not c3)) (by rw [e, z])
        · exact (hx4.neg (Decidable.of_not_not c4)) (by rw [e, z])
        · exact (hx5.neg c5) (by rw [e, z])) R6 F6, fun c5 => y12 _ _ (by have := hx5.pos c5; omega) R6 F6⟩) (k := 23)⟩) (k := 22)⟩) (k := 21)⟩) (k := 20)⟩) (k := 19)⟩) (k := 18)⟩
  have n6 : ∀ w h1, (∀ j, 0 ≤ j → j < 12 → wdV g ≠ j) → RS P g h1 → Fr MsK m h1 → qB tFM (d + 2) k_m_isOwnHere (h 0 0) (h 0 1) Q 6 [(3, 282), (1, w)] [(1, 0)] h1 := fun w h1 hn R0 F0 => by
    refine T_m_isOwnHere_6 _ _ _ _ _ _ _ ⟨fun c => absurd rfl c, fun _ => q_hereS hv (by omega) (by omega) hS hd ok R0 F0 (fun x0 h0' hx0 R1 F1 => ⟨fun c0 => y9 _ _ (by have := hx0.pos c0; omega) R1 F1, fun c0 => q_hereS hv (by omega) (by omega) hS hd ok R1 F1 (fun x1 h1' hx1 R2 F2 => ⟨fun c1 => y9 _ _ (by have := hx1.pos c1; omega) R2 F2, fun c1 => q_hereS hv (by omega) (by omega) hS hd ok R2 F2 (fun x2 h2' hx2 R3 F3 => ⟨fun c2 => y9 _ _ (by have := hx2.pos c2; omega) R3 F3, fun c2 => q_hereS hv (by omega) (by omega) hS hd ok R3 F3 (fun x3 h3' hx3 R4 F4 => T_m_isOwnHere_6_22 _ _ _ _ _ _ _ ⟨fun c3 => y9 _ _ (by have := hx3.pos c3; omega) R4 F4, fun c3 => q_hereS hv (by omega) (by omega) hS hd ok R4 F4 (fun x4 h4' hx4 R5 F5 => ⟨fun c4 => y9 _ _ (by have := hx4.pos c4; omega) R5 F5, fun c4 => q_hereS hv (by omega) (by omega) hS hd ok R5 F5 (fun x5 h5' hx5 R6 F6 => ⟨fun c5 => n9 _ _ (fun j j1 j2 => by
      by_cases q : j < 12
      · exact hn j j1 q
      · intro e
        rcases (by omega : j = 12 ∨ j = 13 ∨ j = 14 ∨ j = 15 ∨ j = 16 ∨ j = 17) with z | z | z | z | z | z
        · exact (hx0.neg (Decidable.of_not_not c0)) (by rw [e, z])
        · exact (hx1.neg (Decidable.of_not_not c1)) (by rw [e, z])
        · exact (hx2.neg (Decidable.of_not_not c2)) (by rw [e, z])
        · exact (hx3.neg (Decidable.of_not_not c3)) (by rw [e, z])
        · exact (hx4.neg (Decidable.of_not_not c4)) (by rw [e, z])
        · exact (hx5.neg c5) (by rw [e, z])) R6 F6, fun c5 => y9 _ _ (by have := hx5.pos c5; omega) R6 F6⟩) (k := 17)⟩) (k := 16)⟩) (k := 15)⟩) (k := 14)⟩) (k := 13)⟩) (k := 12)⟩
  have n3 : ∀ h1, (∀ j, 0 ≤ j → j < 6 → wdV g ≠ j) → RS P g h1 → Fr MsK m h1 → qB tFM (d + 2) k_m_isOwnHere (h 0 0) (h 0 1) Q 3 [(3, 282), (0, 0)] [(1, 0)] h1 := fun h1 hn R0 F0 => by
    refine T_m_isOwnHere_3 _ _ _ _ _ _ ⟨fun c => absurd rfl c, fun _ => q_hereS hv (by omega) (by omega) hS hd ok R0 F0 (fun x0 h0' hx0 R1 F1 => ⟨fun c0 => y6 _ _ (by have := hx0.pos c0; omega) R1 F1, fun c0 => q_hereS hv (by omega) (by omega) hS hd ok R1 F1 (fun x1 h1' hx1 R2 F2 => ⟨fun c1 => y6 _ _ (by have := hx1.pos c1; omega) R2 F2, fun c1 => q_hereS hv (by omega) (by omega) hS hd ok R2 F2 (fun x2 h2' hx2 R3 F3 => ⟨fun c2 => y6 _ _ (by have := hx2.pos c2; omega) R3 F3, fun c2 => q_hereS hv (by omega) (by omega) hS hd ok R3 F3 (fun x3 h3' hx3 R4 F4 => T_m_isOwnHere_3_22 _ _ _ _ _ _ _ ⟨fun c3 => y6 _ _ (by have := hx3.pos c3; omega) R4 F4, fun c3 => q_hereS hv (by omega) (by omega) hS hd ok R4 F4 (fun x4 h4' hx4 R5 F5 => ⟨fun c4 => y6 _ _ (by have := hx4.pos c4; omega) R5 F5, fun c4 => q_hereS hv (by omega) (by omega) hS hd ok R5 F5 (fun x5 h5' hx5 R6 F6 => ⟨fun c5 => n6 _ _ (fun j j1 j2 => by
      by_cases q : j < 6
      · exact hn j j1 q
      · intro e
        rcases (by omega : j = 6 ∨ j = 7 ∨ j = 8 ∨ j = 9 ∨ j = 10 ∨ j = 11) with z | z | z | z | z | z
        · exact (hx0.neg (Decidable.of_not_not c0)) (by rw [e, z])
        · exact (hx1.neg (Decidable.of_not_not c1)) (by rw [e, z])
        · exact (hx2.neg (Decidable.of_not_not c2)) (by rw [e, z])
        · exact (hx3.neg (Decidable.of_not_not c3)) (by rw [e, z])
        · exact (hx4.neg (Decidable.of_not_not c4)) (by rw [e, z])
        · exact (hx5.neg c5) (by rw [e, z])) R6 F6, fun c5 => y6 _ _ (by have := hx5.pos c5; omega) R6 F6⟩) (k := 11)⟩) (k := 10)⟩) (k := 9)⟩) (k := 8)⟩) (k := 7)⟩) (k := 6)⟩
  have n0 : ∀ h1, (∀ j, 0 ≤ j → j < 0 → wdV g ≠ j) → RS P g h1 → Fr MsK m h1 → qB tFM (d + 2) k_m_isOwnHere (h 0 0) (h 0 1) Q 0 [(3, 282), (0, 0)] [] h1 := fun h1 hn R0 F0 => by
    refine T_m_isOwnHere_0 _ _ _ _ _ (q_hereS hv (by omega) (by omega) hS hd ok R0 F0 (fun x0 h0' hx0 R1 F1 => ⟨fun c0 => y3 _ (by have := hx0.pos c0; omega) R1 F1, fun c0 => q_hereS hv (by omega) (by omega) hS hd ok R1 F1 (fun x1 h1' hx1 R2 F2 => ⟨fun c1 => y3 _ (by have := hx1.pos c1; omega) R2 F2, fun c1 => q_hereS hv (by omega) (by omega) hS hd ok R2 F2 (fun x2 h2' hx2 R3 F3 => ⟨fun c2 => y3 _ (by have := hx2.pos c2; omega) R3 F3, fun c2 => q_hereS hv (by omega) (by omega) hS hd ok R3 F3 (fun x3 h3' hx3 R4 F4 => T_m_isOwnHere_0_19 _ _ _ _ _ _ ⟨fun c3 => y3 _ (by have := hx3.pos c3; omega) R4 F4, fun c3 => q_hereS hv (by omega) (by omega) hS hd ok R4 F4 (fun x4 h4' hx4 R5 F5 => ⟨fun c4 => y3 _ (by have := hx4.pos c4; omega) R5 F5, fun c4 => q_hereS hv (by omega) (by omega) hS hd ok R5 F5 (fun x5 h5' hx5 R6 F6 => ⟨fun c5 => n3 _ (fun j j1 j2 => by
      by_cases q : j < 0
      · exact hn j j1 q
      · intro e
        rcases (by omega : j = 0 ∨ j = 1 ∨ j = 2 ∨ j = 3 ∨ j = 4 ∨ j = 5) with z | z | z | z | z | z
        · exact (hx0.neg (Decidable.of_not_not c0)) (by rw [e, z])
        · exact (hx1.neg (Decidable.of_not_not c1)) (by rw [e, z])
        · exact (hx2.neg (Decidable.of_not_not c2)) (by rw [e, z])
        · exact (hx3.neg (Decidable.of_not_not c3)) (by rw [e, z])
        · exact (hx4.neg (Decidable.of_not_not c4)) (by rw [e, z])
        · exact (hx5.neg c5) (by rw [e, z])) R6 F6, fun c5 => y3 _ (by have := hx5.pos c5; omega) R6 F6⟩) (k := 5)⟩) (k := 4)⟩) (k := 3)⟩) (k := 2)⟩) (k := 1)⟩) (k := 0))
  exact qC_intro (n0 h (fun j j1 j2 => absurd j2 (by omega)) hR hF)
set_option maxRecDepth 100000 in
theorem q_m_name (hv : v = 5 ∨ v = 46) (hS : Sc v g) (hR : RS P g h) (hF : Fr MsK m h) (hy : ∀ x h', (nmH g 3 0 = 0 → nmR (nmX g) x) → RS True (nmH g) h' → Fr MsK m h' → Q x h') : qC tFM (d + 4) k_m_name [282] h Q := by
  refine qC_intro (T_m_name_0 _ _ _ _ _ ⟨fun c => ?_, fun c => ?_⟩)
  · have ok : g 3 0 = 0 := by rw [← hR.1]; exact c
    have so : skH g 3 0 = 0 := by rw [skH_30]; exact ok
    have sS := Sc_sk hv hS
    refine q_m_look hv hS ok hR hF (fun h1 R1 F1 => ?_)
    have nS := Sc_nmS hv hS
    have hd : skd (skH g) := skd_sk hS.2.1.2.1
    have nO : nmS g 3 0 = 0 := by unfold nmS; rw [mmS_slot, if_neg (by omega)]; exact so
    have e4 : nmS g 3 4 = skH g 3 4 := by unfold nmS; rw [mmS_slot, if_neg (by omega)]
    have e6 : nmS g 3 6 = skH g 3 6 := by unfold nmS; rw [mmS_slot, if_neg (by omega)]
    have eL : leV (nmS g) = leV (skH g) := leV_el (by omega)
    have e2 : nmS g 2 = skH g 2 := mmS_row (by omega)
    have eW : wdV (nmS g) = wdV (skH g) := by unfold wdV pkV; rw [eL, e4, e6, e2, show nmS g 45 = skH g 45 from mmS_row (by omega)]
    obtain ⟨r1, r2, r3, r4, r5⟩ := id R1
    obtain ⟨t1, t2, t3⟩ := r5 so
    have b := sS.2.1
    have lg := leV_ge sS
    -- a fault
    have flt : ∀ (p p' : Int) (b0 : mmH), p' = p → nmF (nmS g) = flH 1 p (nmS g) → b0 282 5 = 0 → b0 282 3 = skH g 3 3 → (∀ i, 0 ≤ i → i < 1600 → b0 283 i = skH g 2 i) → Fr MsK m b0 → qC tFM (d + 3) k_m_fail [282, 1, p'] b0 (fun _ h3 => Q 0 h3) := by
      intro p p' b0 hp e z5 z3 z4 bF
      refine qC_intro (T_m_fail_0 _ _ _ _ _ _ _ ⟨fun _ => hy _ _ (fun q => ?_) ?_ ((bF.put (by unfold MsK; omega)).put (by unfold MsK; omega)), fun c => absurd z5 c⟩)
      · unfold nmH at q
        rw [e] at q
        unfold flH at q
        rw [if_neg (fun q => q nO), mmS_slot, if_neg (by omega), mmS_slot, if_pos rfl] at q
        exact absurd q (by decide)
      · unfold nmH
        rw [e]
        unfold flH
        rw [if_neg (fun q => q nO)]
        refine ⟨?_, ?_, ?_, fun i i1 i2 => ?_, fun c => ?_⟩
        · rw [mmS_slot, if_neg (by omega), mmS_slot, if_pos rfl, mmS_slot, if_neg (by omega), mmS_slot, if_pos rfl]
        · rw [mmS_slot, if_pos rfl, mmS_slot, if_pos rfl, hp]
        · rw [mmS_slot, if_neg (by omega), mmS_slot, if_neg (by omega), mmS_slot, if_neg (by omega), mmS_slot, if_neg (by omega), z3]
          unfold nmS
          rw [mmS_slot, if_neg (by omega)]
        · rw [mmS_cell (by omega), mmS_cell (by omega), mmS_cell (by omega), mmS_cell (by omega), z4 i i1 i2, e2]
        · rw [mmS_slot, if_neg (by omega), mmS_slot, if_pos rfl] at c
          exact absurd c (by decide)
    have dg : ∀ p, (leV (skH g) = skH g 3 4 ∨ skH g 3 4 = skH g 3 6) → p = skH g 3 4 → nmF (nmS g) = flH 1 p (nmS g) := fun p q e => by
      unfold nmF
      have nb : ¬ nmB (nmS g) = true := fun z => by
        unfold nmB at z
        rw [decide_eq_true_iff, eL, e4, e6] at z
        exact z.1 q
      rw [if_neg nb, eL, e4, e6, if_pos q, e]
    refine q_m_isLetter (fun x hx => ⟨fun c2 => flt _ _ h1 rfl (dg _ (Or.inl ?_) t1) (by rw [r1]; exact so) r3 r4 F1, fun c2 => ⟨fun c3 => flt _ _ h1 rfl (dg _ (Or.inr ?_) t1) (by rw [r1]; exact so) r3 r4 F1, fun c3 => ?_⟩⟩)
    · refine runT_stay ?_
      by_cases q3 : skH g 3 4 < skH g 3 3
      · right
        have := hx.neg c2
        unfold hrV at this
        rw [if_pos q3] at this
        exact Bool.eq_false_iff.mpr this
      · left; omega
    · rw [← t1, ← t2]; exact c3
    · rw [t1, t2] at c3
      have hr := hx.pos c2
      have hb : skH g 3 4 < skH g 3 3 := by
        by_cases q : skH g 3 4 < skH g 3 3
        · exact q
        · unfold hrV at hr; rw [if_neg q] at hr; exact absurd hr (by decide)
      unfold hrV at hr
      rw [if_pos hb] at hr
      have lgt : skH g 3 4 + 1 ≤ leV (skH g) := by
        have e : leV (skH g) = runT isLt (skH g 2) (skH g 3 3) (skH g 3 4 + 1) := runT_step hb hr
        have := runT_ge (p := isLt) (B := skH g 2) (n := skH g 3 3) (i := skH g 3 4 + 1) (by omega)
        omega
      have nd : ¬ (leV (skH g) = skH g 3 4 ∨ skH g 3 4 = skH g 3 6) := by omega
      refine q_m_isOwnHere hv sS hd so R1 F1 (fun y h2 hyy R2 F2 => ⟨fun c4 => ?_, fun c4 => ?_⟩)
      · -- the letters
        have hw : wdV (skH g) = -1 := Classical.byContradiction fun q => hyy.neg c4 q
        have t1' := (R2.2.2.2.2 so).1
        have R3 : RS True (nmS g) (mmS h2 282 38 (h2 282 2)) := by rw [t1']; exact RS_na R2
        have F3 : Fr MsK m (mmS h2 282 38 (h2 282 2)) := F2.put (by unfold MsK; omega)
        have q38 : mmS h2 282 38 (h2 282 2) 282 38 = skH g 3 4 := by rw [mmS_slot, if_pos rfl, t1']
        generalize hh3 : mmS h2 282 38 (h2 282 2) = h3 at R3 F3 q38 ⊢
        have N4 : ∀ b0, RS True (mmS (nmS g) 3 4 (skH g 3 4)) b0 → RS True (nmS g) b0 := fun b0 q => by rw [← e4, mmS_id] at q; exact q
        have key : ∀ (j k : Nat) (b0 : mmH), (k : Int) + j = leV (skH g) - skH g 3 4 → k ≤ 6 → RS True (mmS (nmS g) 3 4 (skH g 3 4 + k)) b0 → b0 282 38 = skH g 3 4 → Fr MsK m b0 → qB tFM (d + 3) k_m_name (h 0 0) (h 0 1) Q 4 [(3, 282), (2, b27 (ltrs (skH g 2) (skH g 3 4) k)), (0, 0)] [] b0 := by
          intro j
          induction j with
          | zero =>
            intro k b0 hk k6 bR b38 bF
            have bt := bR.2.2.2.2 (by rw [mmS_slot, if_neg (by omega)]; exact nO)
            have bt1 := bt.1
            rw [mmS_slot, if_pos rfl] at bt1
            have b3 := bR.2.2.1
            rw [mmS_slot, if_neg (by omega)] at b3
            have b3 : b0 282 3 = skH g 3 3 := by rw [b3]; unfold nmS; rw [mmS_slot, if_neg (by omega)]
            have b4 : ∀ i, 0 ≤ i → i < 1600 → b0 283 i = skH g 2 i := fun i i1 i2 => by rw [bR.2.2.2.1 i i1 i2, mmS_cell (by omega), e2]
            have ek : skH g 3 4 + (k : Int) = leV (nmS g) := by rw [eL]; omega
            have hm : ∀ z ∈ ltrs (skH g 2) (skH g 3 4) k, 1 ≤ z ∧ z ≤ 26 := ltrs_mem _ _ (fun i i1 i2 => runT_all (n := skH g 3 3) i1 (by show i < leV (skH g); omega))
            have hbb : nmB (nmS g) = true := by
              unfold nmB
              rw [decide_eq_true_iff, eL, e4, e6, eW]
              exact ⟨nd, by omega, hw⟩
            have fin : Q (b27 (ltrs (skH g 2) (skH g 3 4) k)) (mmS b0 282 4 (b0 282 2)) := by
              refine hy _ _ (fun _ => ?_) ?_ (bF.put (by unfold MsK; omega))
              · unfold nmX
                rw [if_pos hbb]
                refine ⟨ltrs (skH g 2) (skH g 3 4) k, ⟨by rw [ltrs_len]; omega, by rw [ltrs_len]; omega, hm⟩, ?_, rfl⟩
                unfold pkV
                rw [eL, e4, e2, show (leV (skH g) - skH g 3 4).toNat = k by omega]
              · unfold nmH nmF
                rw [if_pos hbb, bt1, ek]
                have := RS_we (a := leV (nmS g)) bR
                rw [ek] at this
                exact this
            refine T_m_name_4 _ _ _ _ _ _ ⟨fun _ => fin, fun c5 => ?_⟩
            rw [mmD_iff, bt1, b4 _ (by omega) (by omega)]
            refine ⟨by omega, q_m_isLetter (fun z hz => ⟨fun _ => fin, fun c6 => ?_⟩)⟩
            exfalso
            rcases runT_end (p := isLt) (B := skH g 2) (n := skH g 3 3) (i := skH g 3 4) (by omega) with q | ⟨q1, q2⟩
            · have : leV (skH g) = skH g 3 3 := q
              omega
            · have q2 : isLt (skH g 2 (leV (skH g))) = false := q2
              rw [← eL, ← ek] at q2
              rw [hz.pos c6] at q2
              cases q2
          | succ j ih =>
            intro k b0 hk k6 bR b38 bF
            have bt := bR.2.2.2.2 (by rw [mmS_slot, if_neg (by omega)]; exact nO)
            have bt1 := bt.1
            rw [mmS_slot, if_pos rfl] at bt1
            have b3 := bR.2.2.1
            rw [mmS_slot, if_neg (by omega)] at b3
            have b3 : b0 282 3 = skH g 3 3 := by rw [b3]; unfold nmS; rw [mmS_slot, if_neg (by omega)]
            have b4 : ∀ i, 0 ≤ i → i < 1600 → b0 283 i = skH g 2 i := fun i i1 i2 => by rw [bR.2.2.2.1 i i1 i2, mmS_cell (by omega), e2]
            have b5 := bR.1
            rw [mmS_slot, if_neg (by omega)] at b5
            have hl : isLt (skH g 2 (skH g 3 4 + (k : Int))) = true := runT_all (n := skH g 3 3) (i := skH g 3 4) (by omega) (by show skH g 3 4 + (k : Int) < leV (skH g); omega)
            have hl2 := hl
            unfold isLt at hl2
            rw [decide_eq_true_iff] at hl2
            have hm : ∀ z ∈ ltrs (skH g 2) (skH g 3 4) k, 1 ≤ z ∧ z ≤ 26 := ltrs_mem _ _ (fun i i1 i2 => runT_all (n := skH g 3 3) i1 (by show i < leV (skH g); omega))
            refine T_m_name_4 _ _ _ _ _ _ ⟨fun c5 => absurd c5 (by omega), fun c5 => ?_⟩
            rw [mmD_iff, bt1, b4 _ (by omega) (by omega)]
            refine ⟨by omega, q_m_isLetter (fun z hz => ⟨fun c6 => absurd hl (hz.neg c6), fun c6 => ?_⟩)⟩
            rw [b38, bt1, mSub_ok (by omega) (by omega)]
            refine ⟨fun c7 => ?_, fun c7 => ?_⟩
            · have vb : 0 ≤ b27 (ltrs (skH g 2) (skH g 3 4) k) ∧ b27 (ltrs (skH g 2) (skH g 3 4) k) < 387420489 := by
                by_cases k0 : k = 0
                · subst k0; exact ⟨Int.le_refl 0, show (0 : Int) < 387420489 by decide⟩
                · have hn : isNm (ltrs (skH g 2) (skH g 3 4) k) := ⟨by rw [ltrs_len]; omega, by rw [ltrs_len]; omega, hm⟩
                  have := b27_small hn (j := k) (by rw [ltrs_len]; omega)
                  rw [List.take_of_length_le (by rw [ltrs_len]; omega)] at this
                  exact ⟨this.1, this.2.1⟩
              rw [mmD_iff, b4 _ (by omega) (by omega), nMul_ok (by omega) (by omega), nAdd_ok (a := 27 * b27 (ltrs (skH g 2) (skH g 3 4) k)) (by omega) (by omega), nSub_ok (by omega) (by omega), nAdd_ok (by omega) (by omega), mAdd_ok (by omega) (by omega)]
              refine ⟨by omega, ?_⟩
              have ev : 27 * b27 (ltrs (skH g 2) (skH g 3 4) k) + skH g 2 (skH g 3 4 + (k : Int)) - 97 + 1 = b27 (ltrs (skH g 2) (skH g 3 4) (k + 1)) := by rw [ltrs_snoc, b27_snoc]; omega
              rw [ev]
              have RR := RS_at (a := skH g 3 4 + (k : Int) + 1) bR
              rw [mmS_mmS] at RR
              rw [show skH g 3 4 + (k : Int) + 1 = skH g 3 4 + ((k + 1 : Nat) : Int) by omega] at RR ⊢
              exact ih (k + 1) _ (by omega) (by omega) RR (by rw [mmS_slot, if_neg (by omega)]; exact b38) (bF.put (by unfold MsK; omega))
            · refine flt _ _ b0 rfl ?_ (by rw [b5]; exact nO) b3 b4 bF
              have nb : ¬ nmB (nmS g) = true := fun z => by
                unfold nmB at z
                rw [decide_eq_true_iff, eL, e4, e6] at z
                exact z.2.1 (by omega)
              unfold nmF
              rw [if_neg nb, eL, e4, e6, if_neg nd, if_pos (by omega), show skH g 3 4 + (k : Int) = skH g 3 4 + 6 by omega]
        have := key (leV (skH g) - skH g 3 4).toNat 0 h3 (by omega) (by omega) (by rw [show skH g 3 4 + ((0 : Nat) : Int) = nmS g 3 4 by rw [e4]; omega, mmS_id]; exact R3) q38 F3
        exact this
      · have hw := hyy.pos c4
        have nb : ¬ nmB (nmS g) = true := fun z => by
          unfold nmB at z
          rw [decide_eq_true_iff, eW] at z
          exact hw z.2.2
        have l6 : ¬ 6 < leV (skH g) - skH g 3 4 := fun q => hw (wd_m1 (Or.inr (Or.inl q)))
        refine flt _ _ h2 rfl ?_ (by rw [R2.1]; exact so) R2.2.2.1 R2.2.2.2.1 F2
        unfold nmF
        rw [if_neg nb, eL, e4, e6, if_neg nd, if_neg l6, (R2.2.2.2.2 so).1]
  · rw [hR.1] at c
    refine hy _ _ (fun q => ?_) (RS_gone hv hR c sk_nm (fr_nm (v := v))) hF
    exact absurd (by rw [← (sk_nm (g := g) c).1]; exact q) c
end NM
