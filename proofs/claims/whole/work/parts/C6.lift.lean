/-! ===== mm: scanning steps on the stack ===== -/
/-- behind a fault -/
def BD (v n0 z0 c : Int) (m g h : mmH) : Prop := (g 3 0 ≠ 0 ∧ Sc v g ∧ RS True g h) ∧ ((h 0 0 = n0 ∧ h 0 1 = z0) ∧ Fr RwK m h) ∧ (0 ≤ h 282 50 ∧ h 282 50 ≤ c)
section LF
variable {d : Nat} {v n0 z0 s o b c : Int} {m g g' h h' : mmH} {Q : Int → mmH → Prop} {W P : List Int}
theorem BD_gone (hv : v = 5 ∨ v = 46) (hB : BD v n0 z0 c m g h) (hk : Stk g g') (hF : Fr (ScK v) g g') (hS : Sc v g') : BD v n0 z0 c m g' h := by
  obtain ⟨⟨a1, a2, a3⟩, a4, a5⟩ := hB
  exact ⟨⟨by rw [(hk a1).1]; exact a1, hS, RS_gone hv a3 a1 hk hF⟩, a4, a5⟩
theorem BD_le {c' : Int} (hB : BD v n0 z0 c m g h) (hc : c ≤ c') : BD v n0 z0 c' m g h := ⟨hB.1, hB.2.1, hB.2.2.1, by have := hB.2.2.2; omega⟩
theorem BD_5 (hB : BD v n0 z0 c m g h) : h 282 5 ≠ 0 := by rw [hB.1.2.2.1]; exact hB.1.1
theorem RW_5 (hR : RW v n0 z0 s o b m g h W P) : h 282 5 = 0 := RB_ok hR.1.2.2 hR.1.1
theorem RW_bd (hR : RW v n0 z0 s o b m g h W P) : 0 ≤ g (v + 33) 1 ∧ g (v + 33) 1 + W.length + s ≤ g 3 4 ∧ g 3 4 ≤ g 3 3 ∧ g 3 3 ≤ 1600 ∧ 2 ≤ s ∧ h 282 50 = g (v + 33) 1 - P.length ∧ (P.length : Int) ≤ g (v + 33) 1 := by
  obtain ⟨⟨a1, a2, a3⟩, ⟨a4, a5⟩, ⟨a6, a7⟩, ⟨a9, a10⟩, a11, ⟨a12, a13⟩, a14, a15⟩ := hR
  exact ⟨a2.2.2.2.1.1, a11.1, a2.2.1.2.1, a2.2.1.2.2, a11.2, a12, a13⟩
/-- a scanning step that ended in a fault -/
theorem RW_bad (hR : RW v n0 z0 s o b m g h W P) (bad : g' 3 0 ≠ 0) (hS : Sc v g') (hB : RS True g' h') (hF : Fr MsK h h') : BD v n0 z0 (1600 - s) m g' h' := by
  have q := RW_bd hR
  obtain ⟨⟨a1, a2, a3⟩, ⟨a4, a5⟩, ⟨a6, a7⟩, ⟨a9, a10⟩, a11, ⟨a12, a13⟩, a14, a15⟩ := hR
  have f : ∀ k i, ¬ MsK k i → h' k i = h k i := hF
  refine ⟨⟨bad, hS, hB⟩, ⟨⟨?_, ?_⟩, a5.tr (hF.mono (fun k i q => Or.inl q))⟩, ?_⟩
  · rw [f 0 0 (by unfold MsK; omega)]; exact a4.1
  · rw [f 0 1 (by unfold MsK; omega)]; exact a4.2
  · rw [f 282 50 (by unfold MsK; omega)]; omega
theorem RW_sk (hv : v = 5 ∨ v = 46) (hR : RW v n0 z0 s o b m g h W P) : RW v n0 z0 s o b m (skH g) h W P :=
  RW_scan hR (by rw [skH_30]; exact hR.1.1) (Sc_sk hv hR.1.2.1) (RB_sk hv hR.1.2.1 hR.1.2.2) Fr.rf (pl_sk hv hR.1.2.1)
theorem RW_to (hR : RW v n0 z0 s o b m g h W P) (hS : Sc v g') (hB : RS True g' h') (hF : Fr MsK h h') (hp : Plain v g g') (h1 : g' 3 0 = 0 → RW v n0 z0 s o b m g' h' W P → Q 0 h') (h2 : BD v n0 z0 (1600 - s) m g' h' → Q 0 h') : Q 0 h' := by
  by_cases c : g' 3 0 = 0
  · exact h1 c (RW_scan hR c hS (RB_of hS hB) hF hp)
  · exact h2 (RW_bad hR c hS hB hF)
theorem w_look (hv : v = 5 ∨ v = 46) (hR : RW v n0 z0 s o b m g h W P) (hy : ∀ h', RS True (skH g) h' → RW v n0 z0 s o b m (skH g) h' W P → Q (hrV (skH g)) h') : qC tFM (d + 1) k_m_look [282] h Q := by
  obtain ⟨g0, s0, e0, r0⟩ := hR.1.2.2
  have ok : g0 3 0 = 0 := by rw [← skH_30 g0, e0, skH_30]; exact hR.1.1
  have := q_m_look (d := d) (m := h) (Q := Q) hv s0 ok r0 Fr.rf
  rw [e0] at this
  have S1 := Sc_sk hv hR.1.2.1
  exact this (fun h' r f => hy h' r (RW_scan hR (by rw [skH_30]; exact hR.1.1) S1 (RB_of S1 r) f (pl_sk hv hR.1.2.1)))
theorem w_isHereR {k : Int} (hv : v = 5 ∨ v = 46) (k1 : 0 ≤ k) (k2 : k < 29) (hR : RW v n0 z0 s o b m g h W P) (hy : ∀ x h', YN x (wdV (skH g) = k) → RS True (skH g) h' → RW v n0 z0 s o b m (skH g) h' W P → Q x h') : qC tFM (d + 2) k_m_isHere [282, 284 + k] h Q := by
  obtain ⟨g0, s0, e0, r0⟩ := hR.1.2.2
  have ok : g0 3 0 = 0 := by rw [← skH_30 g0, e0, skH_30]; exact hR.1.1
  have := q_m_isHere (d := d) (m := h) (Q := Q) hv k1 k2 s0 r0 Fr.rf
  rw [e0] at this
  have S1 := Sc_sk hv hR.1.2.1
  exact this (fun x h' y r f => hy x h' (y.congr ⟨fun q => q.2, fun q => ⟨ok, q⟩⟩) r (RW_scan hR (by rw [skH_30]; exact hR.1.1) S1 (RB_of S1 r) f (pl_sk hv hR.1.2.1)))
theorem w_isHere {k : Int} (hv : v = 5 ∨ v = 46) (k1 : 0 ≤ k) (k2 : k < 29) (hR : RW v n0 z0 s o b m g h W P) (hy : ∀ x h', YN x (wdV (skH g) = k) → RW v n0 z0 s o b m (skH g) h' W P → Q x h') : qC tFM (d + 2) k_m_isHere [282, 284 + k] h Q :=
  w_isHereR hv k1 k2 hR (fun x h' y _ R => hy x h' y R)
theorem w_takesR {k : Int} (hv : v = 5 ∨ v = 46) (k1 : 0 ≤ k) (k2 : k < 29) (hR : RW v n0 z0 s o b m g h W P) (hn : ∀ h', ¬ wdV (skH g) = k → RS True (skH g) h' → RW v n0 z0 s o b m (skH g) h' W P → Q 0 h') (hy : ∀ h', wdV (skH g) = k → RW v n0 z0 s o b m (psH (skH g)) h' W P → Q 1 h') : qC tFM (d + 3) k_m_takes [282, 284 + k] h Q := by
  obtain ⟨g0, s0, e0, r0⟩ := hR.1.2.2
  have ok : g0 3 0 = 0 := by rw [← skH_30 g0, e0, skH_30]; exact hR.1.1
  have := q_m_takes (d := d) (m := h) (Q := Q) hv k1 k2 s0 r0 Fr.rf
  rw [e0] at this
  have S1 := Sc_sk hv hR.1.2.1
  have S2 := Sc_ps hv S1
  have ok1 : skH g 3 0 = 0 := by rw [skH_30]; exact hR.1.1
  have ok2 : psH (skH g) 3 0 = 0 := by unfold psH; rw [mmS_slot, if_neg (by omega), mmS_slot, if_neg (by omega)]; exact ok1
  exact this (fun h' y r f => hn h' (fun q => y ⟨ok, q⟩) r (RW_scan hR ok1 S1 (RB_of S1 r) f (pl_sk hv hR.1.2.1)))
    (fun h' _ y r f => hy h' y (RW_scan hR ok2 S2 (RB_of S2 r) f ((pl_sk hv hR.1.2.1).tr (pl_ps hv S1))))
theorem w_takes {k : Int} (hv : v = 5 ∨ v = 46) (k1 : 0 ≤ k) (k2 : k < 29) (hR : RW v n0 z0 s o b m g h W P) (hn : ∀ h', ¬ wdV (skH g) = k → RW v n0 z0 s o b m (skH g) h' W P → Q 0 h') (hy : ∀ h', wdV (skH g) = k → RW v n0 z0 s o b m (psH (skH g)) h' W P → Q 1 h') : qC tFM (d + 3) k_m_takes [282, 284 + k] h Q :=
  w_takesR hv k1 k2 hR (fun h' n _ R => hn h' n R) hy
theorem hr_lt {t : mmH} {a : Int} (e : hrV t = a) (h : a ≠ -1) : t 3 4 < t 3 3 := by
  unfold hrV at e
  split at e <;> omega
theorem w_takesSign {a : Int} (hv : v = 5 ∨ v = 46) (hc : a ≠ -1) (hR : RW v n0 z0 s o b m g h W P) (hn : ∀ h', ¬ hrV (skH g) = a → RS True (skH g) h' → RW v n0 z0 s o b m (skH g) h' W P → Q 0 h') (hy : ∀ h', hrV (skH g) = a → h' 282 2 = skH g 3 4 + 1 → h' 283 (skH g 3 4) = a → RW v n0 z0 s o b m (stpH (skH g)) h' W P → Q 1 h') : qC tFM (d + 2) k_m_takesSign [282, a] h Q := by
  obtain ⟨g0, s0, e0, r0⟩ := hR.1.2.2
  have ok : g0 3 0 = 0 := by rw [← skH_30 g0, e0, skH_30]; exact hR.1.1
  have := q_m_takesSign (d := d) (m := h) (Q := Q) hv hc s0 r0 Fr.rf
  rw [e0] at this
  have S1 := Sc_sk hv hR.1.2.1
  have ok1 : skH g 3 0 = 0 := by rw [skH_30]; exact hR.1.1
  refine this (fun h' y r f => hn h' (fun q => y ⟨ok, q⟩) r (RW_scan hR ok1 S1 (RB_of S1 r) f (pl_sk hv hR.1.2.1))) (fun h' _ y r f => ?_)
  have hl := hr_lt y hc
  have S2 := Sc_stp hv S1 hl
  have ok2 : stpH (skH g) 3 0 = 0 := by unfold stpH; rw [mmS_slot, if_neg (by omega)]; exact ok1
  have q3 := S1.2.1
  have e2 : stpH (skH g) 3 4 = skH g 3 4 + 1 := by unfold stpH; rw [mmS_slot, if_pos rfl]
  refine hy h' y ?_ ?_ (RW_scan hR ok2 S2 (RB_of S2 r) f ((pl_sk hv hR.1.2.1).tr (pl_stp hv)))
  · rw [(r.2.2.2.2 ok2).1, e2]
  · rw [r.2.2.2.1 _ (by omega) (by omega)]
    show stpH (skH g) 2 (skH g 3 4) = a
    unfold hrV at y
    rw [if_pos hl] at y
    rw [← y]
    unfold stpH
    rw [mmS_row (by omega)]
theorem w_asksSign {a : Int} (hv : v = 5 ∨ v = 46) (hc : a ≠ -1) (hR : RW v n0 z0 s o b m g h W P) (h1 : ∀ h', tsH a g 3 0 = 0 → RW v n0 z0 s o b m (tsH a g) h' W P → Q 0 h') (h2 : ∀ h', BD v n0 z0 (1600 - s) m (tsH a g) h' → Q 0 h') : qC tFM (d + 3) k_m_asksSign [282, a] h Q := by
  obtain ⟨g0, s0, e0, r0⟩ := hR.1.2.2
  have := q_m_asksSign (d := d) (m := h) (Q := Q) hv hc s0 r0 Fr.rf
  rw [show tsH a g0 = tsH a g by unfold tsH; rw [e0]] at this
  have S2 := Sc_ts hv hc hR.1.2.1
  exact this (fun h' r f => RW_to hR S2 r f (pl_ts hv hR.1.2.1) (h1 h') (h2 h'))
theorem w_asks {k : Int} (hv : v = 5 ∨ v = 46) (k1 : 0 ≤ k) (k2 : k < 29) (hR : RW v n0 z0 s o b m g h W P) (h1 : ∀ h', twH k g 3 0 = 0 → RW v n0 z0 s o b m (twH k g) h' W P → Q 0 h') (h2 : ∀ h', BD v n0 z0 (1600 - s) m (twH k g) h' → Q 0 h') : qC tFM (d + 4) k_m_asks [282, 284 + k] h Q := by
  obtain ⟨g0, s0, e0, r0⟩ := hR.1.2.2
  have := q_m_asks (d := d) (m := h) (Q := Q) hv k1 k2 s0 r0 Fr.rf
  rw [show twH k g0 = twH k g by unfold twH; rw [e0]] at this
  have S2 := Sc_tw (w := k) hv hR.1.2.1
  refine this (fun h' r f => RW_to hR S2 r f (fun ok => ?_) (h1 h') (h2 h'))
  have e : twH k g = psH (skH g) := by
    unfold twH at ok ⊢
    by_cases c : wdV (skH g) = k
    · rw [if_pos c]
    · rw [if_neg c] at ok
      exact absurd ok (fl_bad (by omega))
  rw [e] at ok ⊢
  exact (pl_sk hv hR.1.2.1).tr (pl_ps hv (Sc_sk hv hR.1.2.1)) ok
theorem w_number {lo hi : Int} (hv : v = 5 ∨ v = 46) (hR : RW v n0 z0 s o b m g h W P) (h1 : ∀ h', nuH lo hi g 3 0 = 0 → RW v n0 z0 s o b m (nuH lo hi g) h' W P → Q (nuV (skH g)) h') (h2 : ∀ x h', BD v n0 z0 (1600 - s) m (nuH lo hi g) h' → Q x h') : qC tFM (d + 2) k_m_number [282, lo, hi] h Q := by
  obtain ⟨g0, s0, e0, r0⟩ := hR.1.2.2
  have := q_m_number (d := d) (m := h) (Q := Q) (lo := lo) (hi := hi) hv s0 r0 Fr.rf
  rw [show nuH lo hi g0 = nuH lo hi g by unfold nuH; rw [e0], e0] at this
  have S1 := Sc_sk hv hR.1.2.1
  have S2 := Sc_nu (lo := lo) (hi := hi) hv hR.1.2.1
  refine this (fun x h' e r f => ?_)
  by_cases c : nuH lo hi g 3 0 = 0
  · rw [e c]
    refine h1 h' c (RW_scan hR c S2 (RB_of S2 r) f (fun ok => ?_))
    have q := nu_ok hR.1.2.1 c
    rw [q.1] at ok ⊢
    exact (pl_sk hv hR.1.2.1).tr (pl_nuT hv S1) ok
  · exact h2 x h' (RW_bad hR c S2 r f)
theorem w_fail {w p : Int} (hv : v = 5 ∨ v = 46) (hw : w ≠ 0) (hR : RW v n0 z0 s o b m g h W P) (hS : RS True g h) (hy : ∀ h', BD v n0 z0 (1600 - s) m (flH w p g) h' → Q 0 h') : qC tFM (d + 1) k_m_fail [282, w, p] h Q :=
  q_m_fail hv hS Fr.rf hw (fun _ => rfl) (fun h' r f => hy h' (RW_bad hR (fl_bad hw) (Sc_fl hv hR.1.2.1) r f))
theorem BD_same (hB : BD v n0 z0 c m g h) (h0 : g' 3 0 = g 3 0) (h1 : g' 3 1 = g 3 1) (h3 : g' 3 3 = g 3 3) (h2 : g' 2 = g 2) (hS : Sc v g') : BD v n0 z0 c m g' h := by
  obtain ⟨⟨a1, a2, ⟨r1, r2, r3, r4, r5⟩⟩, a4, a5⟩ := hB
  exact ⟨⟨by rw [h0]; exact a1, hS, by rw [h0]; exact r1, by rw [h1]; exact r2, by rw [h3]; exact r3, by rw [h2]; exact r4, fun q => absurd (by rw [← h0]; exact q) a1⟩, a4, a5⟩
/-- opening one more: a mark, or the fault of too many -/
theorem q_m_opens {w p : Int} (hv : v = 5 ∨ v = 46) (ho : 0 ≤ o ∧ o ≤ 6) (hR : RW v n0 z0 s o b m g h W []) (hS : RS True g h) (h1 : o < 6 → ∀ h', h' = mmS (mmS (mmS h 282 53 (o + 1)) 323 (h 282 52) w) 282 52 (h 282 52 + 1) → Q 0 h') (h2 : ∀ h', o = 6 → BD v n0 z0 (1600 - s) m (flH 4 p g) h' → Q 0 h') : qC tFM (d + 2) k_m_opens [282, w, p] h Q := by
  have q := RW_bd hR
  have hR' := hR
  obtain ⟨⟨a1, a2, a3⟩, ⟨a4, a5⟩, ⟨a6, a7⟩, ⟨a9, a10⟩, a11, ⟨a12, a13⟩, a14, a15⟩ := hR
  rw [List.nil_append] at a6
  refine qC_intro (T_m_opens_0 _ _ _ _ _ _ _ ⟨fun c => ?_, fun c => w_fail hv (by omega) hR' hS (fun h' B => h2 h' (by omega) B)⟩)
  rw [mmD_iff, a9, mAdd_ok (by omega) (by omega), mAdd_ok (by omega) (by omega)]
  exact ⟨by omega, h1 (by omega) _ rfl⟩
/-- the mark's heap, behind the sign -/
theorem RW_open {w : Int} (hv : v = 5 ∨ v = 46) (hR : RW v n0 z0 s o b m g h W []) (hS : RS True g h) (hl : g 3 4 < g 3 3) (h1 : h' = mmS (mmS (mmS h 282 53 (o + 1)) 323 (h 282 52) w) 282 52 (h 282 52 + 1)) : RW v n0 z0 s (o + 1) b m (stpH g) (mmS h' 282 2 (g 3 4 + 1)) (w :: W) [] := by
  subst h1
  have bd := RW_bd hR
  have S2 := Sc_stp hv hR.1.2.1 hl
  have pl := pl_stp (v := v) (g := g) hv
  have e2 : stpH g 3 4 = g 3 4 + 1 := by unfold stpH; rw [mmS_slot, if_pos rfl]
  have ok2 : stpH g 3 0 = 0 := by unfold stpH; rw [mmS_slot, if_neg (by omega)]; exact hR.1.1
  have hR2 : RW v n0 z0 s o b m (stpH g) (mmS h 282 2 (g 3 4 + 1)) W [] := RW_scan hR ok2 S2 (RB_of S2 (RS_at hS)) (Fr.rf.put (by unfold MsK; omega)) pl
  have e1 : (g' : mmH) → mmS (mmS (mmS (mmS h 282 53 (o + 1)) 323 (h 282 52) w) 282 52 (h 282 52 + 1)) 282 2 (g 3 4 + 1) = mmS (mmS (mmS (mmS h 282 2 (g 3 4 + 1)) 282 53 (o + 1)) 323 ((mmS (mmS h 282 2 (g 3 4 + 1)) 282 53 (o + 1)) 282 52) w) 282 52 ((mmS (mmS h 282 2 (g 3 4 + 1)) 282 53 (o + 1)) 282 52 + 1) := fun _ => by
    have e5 : (mmS (mmS h 282 2 (g 3 4 + 1)) 282 53 (o + 1)) 282 52 = h 282 52 := by rw [mmS_slot, if_neg (by omega), mmS_slot, if_neg (by omega)]
    rw [e5]
    funext k i
    unfold mmS
    by_cases q3 : k = 282
    · subst q3
      by_cases i2 : i = 2
      · subst i2; simp
      · by_cases i52 : i = 52
        · subst i52; simp
        · simp [i2, i52]
    · simp [q3]
  rw [e1 h]
  have hR3 : RW v n0 z0 s (o + 1) b m (stpH g) (mmS (mmS h 282 2 (g 3 4 + 1)) 282 53 (o + 1)) W [] := by
    obtain ⟨⟨a1, a2, a3⟩, ⟨a4, a5⟩, ⟨a6, a7⟩, ⟨a9, a10⟩, a11, ⟨a12, a13⟩, a14, a15⟩ := hR2
    have z : ∀ k i, ¬ (k = 282 ∧ i = 53) → mmS (mmS h 282 2 (g 3 4 + 1)) 282 53 (o + 1) k i = mmS h 282 2 (g 3 4 + 1) k i := fun k i q => by
      by_cases e : k = 282
      · subst e; rw [mmS_slot, if_neg (by omega)]
      · rw [mmS_cell e]
    refine ⟨⟨a1, a2, RB_out a3 (fun k i q => z k i (by omega))⟩, ⟨⟨by rw [z 0 0 (by omega)]; exact a4.1, by rw [z 0 1 (by omega)]; exact a4.2⟩, a5.put (Or.inr (by omega))⟩, ⟨by rw [z 282 52 (by omega)]; exact a6, wst_congr _ (fun i _ _ => z 323 i (by omega)) a7⟩, ⟨by rw [mmS_slot, if_pos rfl], by rw [z 282 57 (by omega)]; exact a10⟩, a11, ⟨by rw [z 282 50 (by omega)]; exact a12, a13⟩, fun j j1 j2 => ?_, a15⟩
    rw [z 322 j (by omega)]
    exact a14 j j1 j2
  exact RW_push hR3 (by rw [(pl ok2).2.2.1, e2]; omega) rfl
end LF
