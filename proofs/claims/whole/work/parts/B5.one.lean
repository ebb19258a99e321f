/-! ===== mm: a statement, class side ===== -/
section S5
variable {v m : Int} {g g' : mmH}
theorem St_mono {m' : Int} (hm : m ≤ m') (h : St v m g) : St v m' g := ⟨h.1, h.2.1, h.2.2.1, h.2.2.2.1, ⟨h.2.2.2.2.1.1, Int.le_trans h.2.2.2.2.1.2 hm⟩, h.2.2.2.2.2⟩
theorem St_cn {i x : Int} (hv : v = 5 ∨ v = 46) (hi : (i = 0 ∧ 0 ≤ x ∧ x ≤ 5) ∨ (i = 1 ∧ 0 ≤ x ∧ x ≤ 10) ∨ (i = 2 ∧ 0 ≤ x ∧ x ≤ m) ∨ (i = 3 ∧ 0 ≤ x ∧ x ≤ 6) ∨ 4 ≤ i) (h : St v m g) : St v m (mmS g v i x) := by
  obtain ⟨s0, s1, s2, s3, s4, s5⟩ := h
  refine ⟨Sc_out hv (by omega) (by omega) s0, ?_, ?_, ?_, ?_, ?_⟩
  · rw [mmS_slot]; split <;> omega
  · rw [mmS_slot]; split <;> omega
  · rw [mmS_slot]; split <;> omega
  · rw [mmS_slot]; split <;> omega
  · rw [mmS_cell (by omega)]; exact s5
theorem St_lw {x : Int} (hv : v = 5 ∨ v = 46) (hx : 0 ≤ x ∧ x ≤ 8) (h : St v m g) : St v m (mmS g (v + 33) 0 x) := by
  obtain ⟨s0, s1, s2, s3, s4, s5⟩ := h
  refine ⟨Sc_out hv (by omega) (by omega) s0, ?_, ?_, ?_, ?_, ?_⟩
  · rw [mmS_cell (by omega)]; exact s1
  · rw [mmS_cell (by omega)]; exact s2
  · rw [mmS_cell (by omega)]; exact s3
  · rw [mmS_cell (by omega)]; exact s4
  · rw [mmS_slot, if_pos rfl]; exact hx
theorem St_ok (h : St v m g) (h' : St v m g') : St v m (okE g g') := by
  unfold okE
  split
  · exact h
  · exact h'
theorem St_own (hv : v = 5 ∨ v = 46) (h : St v m g) : St v m (ownF v g) := by
  have S1 := St_newN hv (St_beg (n := g v 0) (k := 5) hv h)
  refine St_ok S1 ?_
  unfold adO
  split
  · exact St_cn hv (by have := S1.2.1; omega) (St_out hv (by omega) (by omega) (by omega) S1)
  · exact S1
theorem St_loD (hv : v = 5 ∨ v = 46) (h : St v m g) : St v m (loD v g) := St_nu hv (St_tw hv (St_nu hv (St_tw hv (St_ob hv (St_tw hv (St_newN hv (St_beg hv h)))))))
theorem St_lot (hv : v = 5 ∨ v = 46) (h : St v m g) : St v m (lotF v g) := by
  have S1 := St_loD hv h
  have s := S1.2.2.1
  refine St_ok S1 ?_
  unfold adL
  split
  · refine St_cn hv (by omega) ?_
    exact St_out hv (by omega) (by omega) (by omega) (St_out hv (by omega) (by omega) (by omega) (St_out hv (by omega) (by omega) (by omega) (St_out hv (by omega) (by omega) (by omega) (St_out hv (by omega) (by omega) (by omega) (St_out hv (by omega) (by omega) (by omega) S1)))))
  · exact S1
theorem St_setL {k i x : Int} (hv : v = 5 ∨ v = 46) (h : St v m g) : St v m (setL v g k i x) := by
  have s := h.2.2.1
  unfold setL
  split
  · next q => unfold isLo at q; exact St_out hv (by omega) (by omega) (by omega) h
  · exact h
theorem St_inA (hv : v = 5 ∨ v = 46) (h : St v m g) : St v m (inA v g) := St_tw hv (St_rf hv (St_lb hv (St_ps hv h)))
theorem St_inn (hv : v = 5 ∨ v = 46) (h : St v m g) : St v m (innF v g) := St_ok (St_nu hv (St_inA hv h)) (St_setL hv (St_nu hv (St_inA hv h)))
theorem St_stA (hv : v = 5 ∨ v = 46) (h : St v m g) : St v m (stA v g) := St_rf hv (St_lb hv (St_ps hv h))
theorem St_sto (hv : v = 5 ∨ v = 46) (h : St v m g) : St v m (stoF v g) := St_ok (St_stA hv h) (St_setL hv (St_stA hv h))
theorem St_gaC (hv : v = 5 ∨ v = 46) (h : St v m g) : St v m (gaC v g) := St_lb hv (St_lb hv (St_beg hv h))
theorem St_gaD (hv : v = 5 ∨ v = 46) (h : St v m g) : St v m (gaD v g) := St_tw hv (St_rf hv (St_gaC hv h))
theorem St_gap (hv : v = 5 ∨ v = 46) (h : St v m g) : St v (m + 1) (gapF v g) := by
  have S1 : St v m (nuH 0 9 (gaD v g)) := St_nu hv (St_gaD hv h)
  have S2 : St v (m + 1) (nuH 0 9 (gaD v g)) := St_mono (by omega) S1
  refine St_ok S2 ?_
  unfold adG
  split
  · next q =>
    unfold isLo at q
    have s := S1.2
    have s2 := S1.2.2.1
    exact St_cn hv (by omega) (St_out hv (by omega) (by omega) (by omega) (St_out hv (by omega) (by omega) (by omega) S2))
  · exact S2
theorem peR_ok (hv : v = 5 ∨ v = 46) (h : St v m g) : 0 ≤ peR v g ∧ peR v g < 6 := by
  have S2 : St v m (peA v g) := St_newN hv (St_beg hv h)
  have := S2.2.2.2.1
  unfold peR mMin
  split <;> omega
theorem St_peW {r w lo hi i : Int} (hv : v = 5 ∨ v = 46) (hr : 0 ≤ r ∧ r < 6) (h : St v m g) : St v m (peW v r w lo hi i g) := St_out hv (by omega) (by omega) (by omega) (St_nu hv (St_tw hv h))
theorem St_peL {r w i : Int} (hv : v = 5 ∨ v = 46) (hr : 0 ≤ r ∧ r < 6) (h : St v m g) : St v m (peL v r w i g) := St_out hv (by omega) (by omega) (by omega) (St_lb hv (St_tw hv h))
theorem St_peB (hv : v = 5 ∨ v = 46) (h : St v m g) : St v m (peB v g) := by
  have hr := peR_ok hv h
  exact St_peW hv hr (St_peW hv hr (St_peW hv hr (St_peW hv hr (St_newN hv (St_beg hv h)))))
theorem St_peD (hv : v = 5 ∨ v = 46) (h : St v m g) : St v m (peD v g) := by
  have hr := peR_ok hv h
  exact St_rf hv (St_peL hv hr (St_peL hv hr (St_peB hv h)))
theorem St_per (hv : v = 5 ∨ v = 46) (h : St v m g) : St v m (perF v g) := by
  have S1 := St_peD hv h
  have s := S1.2.2.2.1
  refine St_ok S1 ?_
  unfold adP
  split
  · exact St_cn hv (by omega) (St_out hv (by omega) (by omega) (by omega) S1)
  · exact S1
theorem St_laC {s : Bool} (hv : v = 5 ∨ v = 46) (h : St v m g) : St v m (laC v s g) := by
  have S2 : St v m (laB v g) := St_ob hv (St_beg hv h)
  unfold laC
  refine St_tw hv ?_
  split
  · exact St_fr hv (fr_sm 7 0 _) (Sc_sm hv 7 0 _ S2.1) S2
  · exact S2
theorem St_laD {s : Bool} (hv : v = 5 ∨ v = 46) (h : St v m g) : St v m (laD v s g) := St_fr hv (fr_te (fr_fc 7 0)) (Sc_te hv (Sc_fc hv 7 0) (St_laC hv h).1) (St_laC hv h)
theorem St_law {s : Bool} (hv : v = 5 ∨ v = 46) (h : St v m g) : St v m (lawF v s g) := by
  have S1 : St v m (laD v s g) := St_laD hv h
  have z := S1.2.2.2.2.2
  refine St_ok S1 ?_
  unfold adW
  split
  · exact St_lw hv (by omega) (St_out hv (by omega) (by omega) (by omega) (St_out hv (by omega) (by omega) (by omega) (St_out hv (by omega) (by omega) (by omega) (St_out hv (by omega) (by omega) (by omega) S1))))
  · exact S1
theorem St_num {i lo hi : Int} (hv : v = 5 ∨ v = 46) (hi4 : 4 ≤ i) (h : St v m g) : St v m (numF v i lo hi g) := St_cn hv (by omega) (St_nu hv (St_ps hv h))
theorem St_bod {w : Int} (hv : v = 5 ∨ v = 46) (h : St v m g) : St v (m + 1) (bodF v w g) := by
  have up : ∀ g', St v m g' → St v (m + 1) g' := fun g' q => St_mono (by omega) q
  unfold bodF
  split
  · exact up _ (St_own hv h)
  · split
    · exact up _ (St_lot hv h)
    · split
      · exact up _ (St_inn hv h)
      · split
        · exact up _ (St_sto hv h)
        · split
          · exact St_gap hv h
          · split
            · exact up _ (St_per hv h)
            · split
              · exact up _ (St_law hv h)
              · split
                · exact up _ (St_law hv h)
                · split
                  · exact up _ (St_num hv (by omega) h)
                  · split
                    · exact up _ (St_num hv (by omega) h)
                    · exact up _ (St_fr hv fr_fl (Sc_fl hv h.1) h)
theorem St_stm (hv : v = 5 ∨ v = 46) (h : St v m g) : St v (m + 1) (stmF v g) := St_ts hv (by omega) (St_bod hv (St_sk hv h))
end S5
section R5A
variable {d : Nat} {h : mmH} {Q : Int → mmH → Prop} {m : Int}
theorem pA_readStatement (hm : m ≤ 100) (hS : St 46 m h) (hy : Q 0 (stmF 46 h)) : qC tFA (d + 66) k_TownText_readStatement [3] h Q := by
  have hv : (46 : Int) = 5 ∨ (46 : Int) = 46 := by decide
  have sS := St_sk hv hS
  have bS := St_bod (w := wdV (skH h)) hv sS
  have en : Q 0 (tsH 59 (bodF 46 (wdV (skH h)) (skH h))) := hy
  clear hy
  generalize hw : wdV (skH h) = w at en bS
  have fin : ∀ g, bodF 46 w (skH h) = g → qC tFA (d + 65) k_TownText_takeSign [3, 59] g (fun _ h2 => Q 0 h2) := fun g e => by
    rw [e] at en bS
    exact pA_takeSign bS.1 (by omega) en
  have bad : ∀ k, w = k → (k ≠ 0 ∧ k ≠ 1 ∧ k ≠ 5 ∧ k ≠ 7 ∧ k ≠ 8 ∧ k ≠ 10 ∧ k ≠ 17 ∧ k ≠ 18 ∧ k ≠ 20 ∧ k ≠ 21) → qC tFA (d + 65) k_TownText_fail [3, 1, skH h 3 4] (skH h) (fun _ h1 => qC tFA (d + 65) k_TownText_takeSign [3, 59] h1 (fun _ h2 => Q 0 h2)) := fun k e n => by
    refine pA_fail (fin _ ?_)
    unfold bodF
    rw [if_neg (by omega), if_neg (by omega), if_neg (by omega), if_neg (by omega), if_neg (by omega), if_neg (by omega), if_neg (by omega), if_neg (by omega), if_neg (by omega), if_neg (by omega)]
  refine qC_intro (TA_TownText_readStatement_0 _ _ _ _ _ (pA_wordHere hS.1 ?_))
  rw [hw]
  refine ⟨⟨fun c => ?_, fun c => ?_, fun c => bad 2 (by omega) (by omega), fun c => bad 3 (by omega) (by omega), fun c => bad 4 (by omega) (by omega), fun c => ?_, fun c => bad 6 (by omega) (by omega), fun c => ?_, fun c => ?_, fun c => bad 9 (by omega) (by omega), fun c => ?_, fun c => bad 11 (by omega) (by omega), fun c => bad 12 (by omega) (by omega), fun c => bad 13 (by omega) (by omega), fun c => bad 14 (by omega) (by omega), fun c => bad 15 (by omega) (by omega), fun c => bad 16 (by omega) (by omega), fun c => ?_, fun c => ?_, fun c => bad 19 (by omega) (by omega), fun c => ?_, fun c => ?_, trivial⟩, fun c => bad w rfl (by omega)⟩
  · exact pA_readOwner sS (fin _ (by unfold bodF; rw [if_pos (by omega)]))
  · exact pA_readLot sS (fin _ (by unfold bodF; rw [if_neg (by omega), if_pos (by omega)]))
  · exact pA_readInn sS (fin _ (by unfold bodF; rw [if_neg (by omega), if_neg (by omega), if_pos (by omega)]))
  · exact pA_readStork sS (fin _ (by unfold bodF; rw [if_neg (by omega), if_neg (by omega), if_neg (by omega), if_pos (by omega)]))
  · exact pA_readGap hm sS (fin _ (by unfold bodF; rw [if_neg (by omega), if_neg (by omega), if_neg (by omega), if_neg (by omega), if_pos (by omega)]))
  · exact pA_readPerson sS (fin _ (by unfold bodF; rw [if_neg (by omega), if_neg (by omega), if_neg (by omega), if_neg (by omega), if_neg (by omega), if_pos (by omega)]))
  · exact qC_le (d := d + 64) (by omega) (pA_readLaw (s := true) rfl sS (fin _ (by unfold bodF; rw [if_neg (by omega), if_neg (by omega), if_neg (by omega), if_neg (by omega), if_neg (by omega), if_neg (by omega), if_pos (by omega)])))
  · exact qC_le (d := d + 64) (by omega) (pA_readLaw (s := false) rfl sS (fin _ (by unfold bodF; rw [if_neg (by omega), if_neg (by omega), if_neg (by omega), if_neg (by omega), if_neg (by omega), if_neg (by omega), if_neg (by omega), if_pos (by omega)])))
  · exact pA_passWord sS.1 (pA_number (St_ps hv sS).1 (fin _ (by unfold bodF; rw [if_neg (by omega), if_neg (by omega), if_neg (by omega), if_neg (by omega), if_neg (by omega), if_neg (by omega), if_neg (by omega), if_neg (by omega), if_pos (by omega)]; rfl)))
  · exact pA_passWord sS.1 (pA_number (St_ps hv sS).1 (fin _ (by unfold bodF; rw [if_neg (by omega), if_neg (by omega), if_neg (by omega), if_neg (by omega), if_neg (by omega), if_neg (by omega), if_neg (by omega), if_neg (by omega), if_neg (by omega), if_pos (by omega)]; rfl)))
theorem pA_goesOn (hS : St 46 m h) (hy : ∀ x, YN x (skH h 3 0 = 0 ∧ skH h 3 4 < skH h 3 3) → Q x (skH h)) : qC tFA (d + 2) k_TownText_goesOn [3] h Q :=
  qC_intro (TA_TownText_goesOn_0 _ _ _ _ _ (pA_skip hS.1 ⟨fun c => hy _ (YN.no (by omega)), fun c => ⟨fun c2 => hy _ (YN.no (by omega)), fun c2 => hy _ (YN.yes (by omega))⟩⟩))
end R5A
section R5B
variable {d : Nat} {h : mmH} {Q : Int → mmH → Prop} {m : Int}
theorem pB_readStatement (hm : m ≤ 100) (hS : St 5 m h) (hy : Q 0 (stmF 5 h)) : qC tFB (d + 66) k_TownText_readStatement [3] h Q := by
  have hv : (5 : Int) = 5 ∨ (5 : Int) = 46 := by decide
  have sS := St_sk hv hS
  have bS := St_bod (w := wdV (skH h)) hv sS
  have en : Q 0 (tsH 59 (bodF 5 (wdV (skH h)) (skH h))) := hy
  clear hy
  generalize hw : wdV (skH h) = w at en bS
  have fin : ∀ g, bodF 5 w (skH h) = g → qC tFB (d + 65) k_TownText_takeSign [3, 59] g (fun _ h2 => Q 0 h2) := fun g e => by
    rw [e] at en bS
    exact pB_takeSign bS.1 (by omega) en
  have bad : ∀ k, w = k → (k ≠ 0 ∧ k ≠ 1 ∧ k ≠ 5 ∧ k ≠ 7 ∧ k ≠ 8 ∧ k ≠ 10 ∧ k ≠ 17 ∧ k ≠ 18 ∧ k ≠ 20 ∧ k ≠ 21) → qC tFB (d + 65) k_TownText_fail [3, 1, skH h 3 4] (skH h) (fun _ h1 => qC tFB (d + 65) k_TownText_takeSign [3, 59] h1 (fun _ h2 => Q 0 h2)) := fun k e n => by
    refine pB_fail (fin _ ?_)
    unfold bodF
    rw [if_neg (by omega), if_neg (by omega), if_neg (by omega), if_neg (by omega), if_neg (by omega), if_neg (by omega), if_neg (by omega), if_neg (by omega), if_neg (by omega), if_neg (by omega)]
  refine qC_intro (TB_TownText_readStatement_0 _ _ _ _ _ (pB_wordHere hS.1 ?_))
  rw [hw]
  refine ⟨⟨fun c => ?_, fun c => ?_, fun c => bad 2 (by omega) (by omega), fun c => bad 3 (by omega) (by omega), fun c => bad 4 (by omega) (by omega), fun c => ?_, fun c => bad 6 (by omega) (by omega), fun c => ?_, fun c => ?_, fun c => bad 9 (by omega) (by omega), fun c => ?_, fun c => bad 11 (by omega) (by omega), fun c => bad 12 (by omega) (by omega), fun c => bad 13 (by omega) (by omega), fun c => bad 14 (by omega) (by omega), fun c => bad 15 (by omega) (by omega), fun c => bad 16 (by omega) (by omega), fun c => ?_, fun c => ?_, fun c => bad 19 (by omega) (by omega), fun c => ?_, fun c => ?_, trivial⟩, fun c => bad w rfl (by omega)⟩
  · exact pB_readOwner sS (fin _ (by unfold bodF; rw [if_pos (by omega)]))
  · exact pB_readLot sS (fin _ (by unfold bodF; rw [if_neg (by omega), if_pos (by omega)]))
  · exact pB_readInn sS (fin _ (by unfold bodF; rw [if_neg (by omega), if_neg (by omega), if_pos (by omega)]))
  · exact pB_readStork sS (fin _ (by unfold bodF; rw [if_neg (by omega), if_neg (by omega), if_neg (by omega), if_pos (by omega)]))
  · exact pB_readGap hm sS (fin _ (by unfold bodF; rw [if_neg (by omega), if_neg (by omega), if_neg (by omega), if_neg (by omega), if_pos (by omega)]))
  · exact pB_readPerson sS (fin _ (by unfold bodF; rw [if_neg (by omega), if_neg (by omega), if_neg (by omega), if_neg (by omega), if_neg (by omega), if_pos (by omega)]))
  · exact qC_le (d := d + 64) (by omega) (pB_readLaw (s := true) rfl sS (fin _ (by unfold bodF; rw [if_neg (by omega), if_neg (by omega), if_neg (by omega), if_neg (by omega), if_neg (by omega), if_neg (by omega), if_pos (by omega)])))
  · exact qC_le (d := d + 64) (by omega) (pB_readLaw (s := false) rfl sS (fin _ (by unfold bodF; rw [if_neg (by omega), if_neg (by omega), if_neg (by omega), if_neg (by omega), if_neg (by omega), if_neg (by omega), if_neg (by omega), if_pos (by omega)])))
  · exact pB_passWord sS.1 (pB_number (St_ps hv sS).1 (fin _ (by unfold bodF; rw [if_neg (by omega), if_neg (by omega), if_neg (by omega), if_neg (by omega), if_neg (by omega), if_neg (by omega), if_neg (by omega), if_neg (by omega), if_pos (by omega)]; rfl)))
  · exact pB_passWord sS.1 (pB_number (St_ps hv sS).1 (fin _ (by unfold bodF; rw [if_neg (by omega), if_neg (by omega), if_neg (by omega), if_neg (by omega), if_neg (by omega), if_neg (by omega), if_neg (by omega), if_neg (by omega), if_neg (by omega), if_pos (by omega)]; rfl)))
theorem pB_goesOn (hS : St 5 m h) (hy : ∀ x, YN x (skH h 3 0 = 0 ∧ skH h 3 4 < skH h 3 3) → Q x (skH h)) : qC tFB (d + 2) k_TownText_goesOn [3] h Q :=
  qC_intro (TB_TownText_goesOn_0 _ _ _ _ _ (pB_skip hS.1 ⟨fun c => hy _ (YN.no (by omega)), fun c => ⟨fun c2 => hy _ (YN.no (by omega)), fun c2 => hy _ (YN.yes (by omega))⟩⟩))
end R5B
