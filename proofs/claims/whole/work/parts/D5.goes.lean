/-! ===== mm: behind a fact ===== -/
section GO
variable {d e : Nat} {v n0 z0 s o b b' c k was : Int} {m g g' h h' : mmH} {Q : Int → mmH → Prop} {W P : List Int}
theorem lt_wd (hS : Sc v g) (hw : wdV g ≠ -1) : 97 ≤ hrV g ∧ hrV g ≤ 122 := by
  have n1 : leV g ≠ g 3 4 := fun q => hw (wd_m1 (Or.inl q))
  have b := hS.2.1
  by_cases c1 : g 3 3 ≤ g 3 4
  · exact absurd (runT_stay (Or.inl c1)) n1
  · by_cases c2 : isLt (g 2 (g 3 4)) = true
    · unfold hrV
      rw [if_pos (by omega)]
      unfold isLt at c2
      rw [decide_eq_true_iff] at c2
      exact c2
    · exact absurd (runT_stay (Or.inr (Bool.eq_false_iff.mpr c2))) n1
theorem t_F1 {x : Int} {w2 : mmV} (hB : BD v n0 z0 c m g h) (hF : Q 0 h) : qB tFM (e + 8) k_m_test n0 z0 Q 1 [(3, 282), (1, x), w2] [] h := by
  have b6 : qB tFM (e + 8) k_m_test n0 z0 Q 6 [(3, 282), (1, x), w2] [] h := T_m_test_6 _ _ _ _ _ _ _ ⟨fun _ => hF, fun q => absurd (BD_5 hB) q⟩
  exact T_m_test_1 _ _ _ _ _ _ _ ⟨fun _ => b6, fun _ => ⟨fun _ => b6, fun q => absurd (BD_5 hB) q⟩⟩
theorem t_F2 (hB : BD v n0 z0 c m g h) (hF : Q 0 h) : tQt e n0 z0 Q 0 h := ⟨fun _ _ => t_F1 hB hF, fun q => absurd rfl q⟩
theorem t_E (hE : tE e n0 z0 Q h) : tQt e n0 z0 Q 1 h := ⟨fun q => absurd q (by omega), fun _ w2 => hE _⟩
theorem G_0 (hv : v = 5 ∨ v = 46) (hR : RW v n0 z0 s o b m g h W P)
    (h1 : hrV (skH g) = 93 → 25 ∈ P ++ W → ∀ h', RW v n0 z0 s o b m (stpH (skH g)) h' W P → qB tFM (e + 7) k_m_goesOnTest n0 z0 (tQt e n0 z0 Q) 1 [(3, 282)] [] h')
    (h2 : ¬ (hrV (skH g) = 93 ∧ 25 ∈ P ++ W) → ∀ h', RS True (skH g) h' → RW v n0 z0 s o b m (skH g) h' W P → qB tFM (e + 7) k_m_goesOnTest n0 z0 (tQt e n0 z0 Q) 3 [(3, 282)] [] h') : tG e n0 z0 Q h := by
  refine T_m_goesOnTest_0 _ _ _ _ _ ⟨fun q => absurd (RW_5 hR) q, fun _ => w_look hv hR (fun ha ra Ra => ⟨fun q => h2 (fun z => q z.1) _ ra Ra, fun q => q_m_hasSquare Ra (fun x y => ⟨fun c => h2 (fun z => y.neg c z.2) _ ra Ra, fun c => ?_⟩)⟩)⟩
  have q : hrV (skH g) = 93 := by omega
  have hl := hr_lt q (by omega)
  have S1 := Sc_sk hv hR.1.2.1
  have S3 := Sc_stp hv S1 hl
  have b1 := S1.2.1
  have ok3 : stpH (skH g) 3 0 = 0 := by unfold stpH; rw [mmS_slot, if_neg (by omega)]; exact Ra.1.1
  rw [(ra.2.2.2.2 Ra.1.1).1, mAdd_ok (by omega) (by omega)]
  exact h1 q (y.pos c) _ (RW_scan Ra ok3 S3 (RB_of S3 (RS_at ra)) (Fr.rf.put (by unfold MsK; omega)) (pl_stp hv))
theorem G_3no (hv : v = 5 ∨ v = 46) (hk : skH g = g) (hS : RS True g h) (hR : RW v n0 z0 s o b m g h W P) (hn : wdV g ≠ 24 ∧ wdV g ≠ 23)
    (h1 : ¬ 25 ∈ P ++ W → ∀ h', RW v n0 z0 s o b m g h' W P → tQt e n0 z0 Q 0 h') (h2 : 25 ∈ P ++ W → ∀ h', BD v n0 z0 (1600 - s) m (flH 1 (g 3 4) g) h' → Q 0 h') : qB tFM (e + 7) k_m_goesOnTest n0 z0 (tQt e n0 z0 Q) 3 [(3, 282)] [] h := by
  refine T_m_goesOnTest_3 _ _ _ _ _ (w_takes (k := 24) hv (by omega) (by omega) hR (fun ha na Ra => ⟨fun _ => ?_, fun q => absurd rfl q⟩) (fun ha ea _ => absurd (by rw [hk] at ea; exact ea) hn.1))
  rw [hk] at Ra
  refine w_takesR (k := 23) hv (by omega) (by omega) Ra (fun hb nb rb Rb => ⟨fun _ => ?_, fun q => absurd rfl q⟩) (fun hb eb _ => absurd (by rw [hk] at eb; exact eb) hn.2)
  rw [hk] at rb Rb
  refine ⟨fun q => absurd (RW_5 Rb) q, fun _ => q_m_hasSquare Rb (fun x y => ⟨fun c => h1 (y.neg c) _ Rb, fun c => ?_⟩)⟩
  rw [(rb.2.2.2.2 Rb.1.1).1]
  have q25 := y.pos c
  exact w_fail hv (by omega) Rb rb (fun h' B => t_F2 B (h2 q25 h' B))
theorem G_and (hv : v = 5 ∨ v = 46) (hR : RW v n0 z0 s o b m g h W P) (hP : ∀ p ∈ P, p = 15) (hW : tp W ≠ 15) (hw : wdV (skH g) = 24) (hy : ∀ h', RW v n0 z0 s o b m (psH (skH g)) h' (15 :: W) [] → tE e n0 z0 Q h') : tG e n0 z0 Q h := by
  have bd := RW_bd hR
  have sg := (skH_at hR.1.2.1).1
  have pk := (pl_sk hv hR.1.2.1 (by rw [skH_30]; exact hR.1.1)).2.2.1
  have S1 := Sc_sk hv hR.1.2.1
  have hk : skH (skH g) = skH g := skd_id (skd_sk hR.1.2.1.2.1.2.1)
  have lt := lt_wd S1 (by omega)
  refine G_0 hv hR (fun z => absurd z (by omega)) (fun _ ha ra Ra => ?_)
  refine T_m_goesOnTest_3 _ _ _ _ _ (w_takes (k := 24) hv (by omega) (by omega) Ra (fun hb nb => absurd (by rw [hk]; exact hw) nb) (fun hb eb Rb => ⟨fun q => absurd q (by omega), fun _ => ?_⟩))
  rw [hk] at Rb
  have l1 := ps_len S1 hw (by omega)
  have p1 := (pl_ps hv S1 Rb.1.1).2.2.1
  exact G_4 (d := e + 5) hv hW (by rw [p1]; omega) (fun h' R => t_E (hy h' R)) P hP _ Rb
theorem G_or (hv : v = 5 ∨ v = 46) (hR : RW v n0 z0 s o b m g h W P) (hP : ∀ p ∈ P, p = 15 ∨ p = 16) (hW : tp W ≠ 15 ∧ tp W ≠ 16) (hw : wdV (skH g) = 23) (hy : ∀ h', RW v n0 z0 s o b m (psH (skH g)) h' (16 :: W) [] → tE e n0 z0 Q h') : tG e n0 z0 Q h := by
  have bd := RW_bd hR
  have sg := (skH_at hR.1.2.1).1
  have pk := (pl_sk hv hR.1.2.1 (by rw [skH_30]; exact hR.1.1)).2.2.1
  have S1 := Sc_sk hv hR.1.2.1
  have hk : skH (skH g) = skH g := skd_id (skd_sk hR.1.2.1.2.1.2.1)
  have lt := lt_wd S1 (by omega)
  refine G_0 hv hR (fun z => absurd z (by omega)) (fun _ ha ra Ra => ?_)
  refine T_m_goesOnTest_3 _ _ _ _ _ (w_takes (k := 24) hv (by omega) (by omega) Ra (fun hb nb Rb => ⟨fun _ => ?_, fun q => absurd rfl q⟩) (fun hb eb => absurd (by rw [hk] at eb; exact eb) (by omega)))
  rw [hk] at Rb
  refine w_takes (k := 23) hv (by omega) (by omega) Rb (fun hc nc => absurd (by rw [hk]; exact hw) nc) (fun hc ec Rc => ⟨fun q => absurd q (by omega), fun _ => ?_⟩)
  rw [hk] at Rc
  have l1 := ps_len S1 hw (by omega)
  have p1 := (pl_ps hv S1 Rc.1.1).2.2.1
  exact G_7 (d := e + 5) hv hW (by rw [p1]; omega) (fun h' R => t_E (hy h' R)) P hP _ Rc
/-- a square shut -/
theorem G_1 (hv : v = 5 ∨ v = 46) (ho : 0 ≤ o ∧ o ≤ 6) (hy : ∀ h', RW v n0 z0 s o b m g h' W [] → tD e n0 z0 Q h') : ∀ (P : List Int), (∀ p ∈ P, p = 15 ∨ p = 16) → ∀ h, RW v n0 z0 s (o + 1) b m g h (25 :: W) P → qB tFM (e + 7) k_m_goesOnTest n0 z0 (tQt e n0 z0 Q) 1 [(3, 282)] [] h
  | [], _, h, hR => by
    have bd := RW_bd hR
    rw [List.length_cons] at bd
    have a6 : h 282 52 = (W.length : Int) + 1 := by rw [hR.2.2.1.1]; show ((W.length + 1 : Nat) : Int) = _; omega
    have a9 : h 282 53 = o + 1 := hR.2.2.2.1.1
    refine T_m_goesOnTest_1 _ _ _ _ _ (q_m_isOn (by omega) hR (fun x y => ⟨fun _ => ?_, fun c => absurd (show (25 : Int) = 25 from rfl) (y.neg (by rcases y.b with z | z <;> omega))⟩))
    rw [mSub_ok (by omega) (by omega), mSub_ok (by omega) (by omega)]
    have R1 := RW_pop hR rfl
    rw [show o + 1 - 1 = o by omega] at R1
    refine qC_intro ?_
    rw [R1.2.1.1.1, R1.2.1.1.2]
    exact hy _ R1 _ (fun h' _ _ hG => hG)
  | p :: P, hP, h, hR => by
    have hp := hP p (List.mem_cons_self ..)
    refine T_m_goesOnTest_1 _ _ _ _ _ (q_m_isOn (by omega) hR (fun x y => ⟨fun c => absurd (show p = 25 from y.pos c) (by omega), fun _ => q_m_drops hv hR (fun h' r => G_1 hv ho hy P (fun q hq => hP q (List.mem_cons_of_mem _ hq)) h' r)⟩))
end GO
