/-! ===== mm: walking: heaps ===== -/
def shiftH (h : mmH) : mmH := mmS (mmCpy (mmCpy (mmCpy h 92 1 92 0 59) 93 1 93 0 59) 94 1 94 0 59) 86 2 59
def leadA (l p : Int) (h : mmH) : mmH := mmS (mmS (mmS (mmS h 92 (h 86 2) (h 86 0)) 93 (h 86 2) l) 94 (h 86 2) p) 86 2 (h 86 2 + 1)
def leadH (l p : Int) (h : mmH) : mmH := leadA l p (if h 86 2 < 60 then h else shiftH h)
def brkO (u p l : Int) (h : mmH) : Bool := decide (0 < h 87 l ∧ h u 4 * h 87 l < h (u + 16 + p) 0)
theorem brkO_iff {u p l : Int} {h : mmH} : brkO u p l h = true ↔ (0 < h 87 l ∧ h u 4 * h 87 l < h (u + 16 + p) 0) := by unfold brkO; exact decide_eq_true_iff
noncomputable def payH (u l t : Int) (h : mmH) : mmH := mmS h 90 (h (u + 5 + l) 0) (mAdd (h 90 (h (u + 5 + l) 0)) t)
noncomputable def stepH (u p l t : Int) (h : mmH) : mmH := if brkO u p l h then leadH l p (mmS (payH u l t h) 87 l (h 87 l - 1)) else payH u l t h
noncomputable def goN (u p : Int) (w : Int → Int) (path : Nat → Int) (h : mmH) : Nat → mmH
  | 0 => h
  | n + 1 => stepH u p (path n) (w (path n)) (goN u p w path h n)
noncomputable def cntN (u p : Int) (w : Int → Int) (path : Nat → Int) (h : mmH) : Nat → Int
  | 0 => 0
  | n + 1 => if brkO u p (path n) (goN u p w path h n) then cntN u p w path h n + 1 else cntN u p w path h n
def turnH (p : Int) (h : mmH) : mmH := mmS (mmS h 89 p (h 88 p)) 88 p (h 89 p)
/-- what walking writes -/
def SwK (k i : Int) : Prop := k = 87 ∨ k = 90 ∨ (92 ≤ k ∧ k ≤ 94) ∨ (k = 86 ∧ i = 2)
theorem shiftH_fr (h : mmH) : Fr SwK h (shiftH h) := fun k i q => by
  unfold SwK at q
  unfold shiftH mmCpy
  by_cases q1 : k = 86
  · subst q1
    rw [mmS_slot, if_neg (by omega), if_neg (by omega), if_neg (by omega), if_neg (by omega)]
  · rw [mmS_cell q1, if_neg (by omega), if_neg (by omega), if_neg (by omega)]
theorem leadA_fr (l p : Int) (h : mmH) : Fr SwK h (leadA l p h) := by
  unfold leadA
  exact (((Fr.rf.put (by unfold SwK; omega)).put (by unfold SwK; omega)).put (by unfold SwK; omega)).put (by unfold SwK; omega)
theorem leadH_fr (l p : Int) (h : mmH) : Fr SwK h (leadH l p h) := by
  unfold leadH
  split
  · exact leadA_fr l p h
  · exact (shiftH_fr h).tr (leadA_fr l p _)
theorem leadH_87 (l p : Int) (h : mmH) (i : Int) : leadH l p h 87 i = h 87 i := by
  unfold leadH
  split
  · unfold leadA
    rw [mmS_cell (by omega), mmS_cell (by omega), mmS_cell (by omega), mmS_cell (by omega)]
  · unfold leadA shiftH mmCpy
    rw [mmS_cell (by omega), mmS_cell (by omega), mmS_cell (by omega), mmS_cell (by omega), mmS_cell (by omega), if_neg (by omega), if_neg (by omega), if_neg (by omega)]
theorem leadH_n (l p : Int) (h : mmH) : leadH l p h 86 2 = if h 86 2 < 60 then h 86 2 + 1 else 60 := by
  unfold leadH
  split
  · unfold leadA
    rw [mmS_slot, if_pos rfl]
  · unfold leadA shiftH
    rw [mmS_slot, if_pos rfl, mmS_slot, if_pos rfl]
    rfl
theorem stepH_fr (u p l t : Int) (h : mmH) : Fr SwK h (stepH u p l t h) := by
  unfold stepH payH
  split
  · exact ((Fr.rf.put (by unfold SwK; omega)).put (by unfold SwK; omega)).tr (leadH_fr l p _)
  · exact Fr.rf.put (by unfold SwK; omega)
theorem goN_fr (u p : Int) (w : Int → Int) (path : Nat → Int) (h : mmH) : ∀ n, Fr SwK h (goN u p w path h n)
  | 0 => Fr.rf
  | n + 1 => (goN_fr u p w path h n).tr (stepH_fr u p _ _ _)
/-- roofs stay within bounds -/
def rwB (m : Int) (h : mmH) : Prop := (∀ l, 0 ≤ l → l < m → 0 ≤ h 87 l ∧ h 87 l ≤ 30) ∧ 0 ≤ h 86 2 ∧ h 86 2 ≤ 60
theorem stepH_B {m u p l t : Int} {h : mmH} (hB : rwB m h) : rwB m (stepH u p l t h) := by
  obtain ⟨b1, b2, b3⟩ := hB
  unfold stepH
  split
  · next q =>
    refine ⟨fun l' l1 l2 => ?_, ?_⟩
    · rw [leadH_87, mmS_slot]
      unfold payH
      rw [mmS_cell (by omega)]
      have := b1 l' l1 l2
      have := (brkO_iff.mp q).1
      split
      · next e => subst e; omega
      · omega
    · rw [leadH_n, mmS_cell (by omega)]
      unfold payH
      rw [mmS_cell (by omega)]
      split <;> omega
  · unfold payH
    refine ⟨fun l' l1 l2 => ?_, ?_⟩
    · rw [mmS_cell (by omega)]; exact b1 l' l1 l2
    · rw [mmS_cell (by omega)]; exact ⟨b2, b3⟩
theorem goN_B {m u p : Int} {w : Int → Int} {path : Nat → Int} {h : mmH} (hB : rwB m h) : ∀ n, rwB m (goN u p w path h n)
  | 0 => hB
  | n + 1 => stepH_B (goN_B hB n)
theorem cntN_B (u p : Int) (w : Int → Int) (path : Nat → Int) (h : mmH) : ∀ n : Nat, 0 ≤ cntN u p w path h n ∧ cntN u p w path h n ≤ n
  | 0 => ⟨Int.le_refl _, Int.le_refl _⟩
  | n + 1 => by
    have := cntN_B u p w path h n
    unfold cntN
    split <;> omega
theorem rows91 : (tFA 91 0 = some 92 ∧ tFA 91 1 = some 93 ∧ tFA 91 2 = some 94 ∧ tFB 91 0 = some 92 ∧ tFB 91 1 = some 93 ∧ tFB 91 2 = some 94) ∧ tSh 92 = (100, 60) ∧ tSh 93 = (100, 60) ∧ tSh 94 = (100, 60) ∧ tWn 1 92 = true ∧ tWn 1 93 = true ∧ tWn 1 94 = true := by decide +kernel
section WKA
variable {d : Nat} {h m0 : mmH} {Q : Int → mmH → Prop}
theorem pA_forget (hy : Q 0 (shiftH h)) : qC tFA (d + 1) k_Roofs_forgetOldestLed [86] h Q := by
  obtain ⟨⟨a1, a2, a3, b1, b2, b3⟩, s1, s2, s3, w1, w2, w3⟩ := rows91
  refine qC_intro (TA_Roofs_forgetOldestLed_0 _ _ _ _ _ (TA_Roofs_forgetOldestLed_1 _ _ _ _ _ _ ⟨fun q => absurd q (by decide), fun _ => ?_⟩))
  simp only [mmD_iff, mmG_iff, Bool.and_eq_true, Bool.or_eq_true, Nat.beq_refl, true_and, and_true, Option.getD_none, Option.isNone_none, decide_eq_true_eq, lc_lt0, lc_gt0, lc_le0, lc_ge0, lc_eq0, lc_ne0, ite_true, ite_false, a1, a2, a3, b1, b2, b3, s1, s2, s3, w1, w2, w3, Option.getD_some]
  rw [mAdd_ok (by decide) (by decide), show (0 : Int) + 1 = 1 from rfl]
  refine ⟨by omega, by omega, by omega, TA_Roofs_forgetOldestLed_1 _ _ _ _ _ _ ⟨fun q => absurd q (by decide), fun _ => ?_⟩⟩
  simp only [mmD_iff, mmG_iff, Bool.and_eq_true, Bool.or_eq_true, Nat.beq_refl, true_and, and_true, Option.getD_none, Option.isNone_none, decide_eq_true_eq, lc_lt0, lc_gt0, lc_le0, lc_ge0, lc_eq0, lc_ne0, ite_true, ite_false, a1, a2, a3, b1, b2, b3, s1, s2, s3, w1, w2, w3, Option.getD_some]
  rw [mAdd_ok (by decide) (by decide), show (1 : Int) + 1 = 2 from rfl]
  refine ⟨by omega, by omega, by omega, TA_Roofs_forgetOldestLed_1 _ _ _ _ _ _ ⟨fun q => absurd q (by decide), fun _ => ?_⟩⟩
  simp only [mmD_iff, mmG_iff, Bool.and_eq_true, Bool.or_eq_true, Nat.beq_refl, true_and, and_true, Option.getD_none, Option.isNone_none, decide_eq_true_eq, lc_lt0, lc_gt0, lc_le0, lc_ge0, lc_eq0, lc_ne0, ite_true, ite_false, a1, a2, a3, b1, b2, b3, s1, s2, s3, w1, w2, w3, Option.getD_some]
  rw [mAdd_ok (by decide) (by decide), show (2 : Int) + 1 = 3 from rfl]
  exact ⟨by omega, by omega, by omega, TA_Roofs_forgetOldestLed_1 _ _ _ _ _ _ ⟨fun _ => hy, fun q => absurd (by decide) q⟩⟩
theorem pA_lead {l p : Int} (n1 : 0 ≤ h 86 2) (n2 : h 86 2 ≤ 60) (hy : Q 0 (leadH l p h)) : qC tFA (d + 2) k_Roofs_lead [86, l, p] h Q := by
  have b1 : ∀ h1 : mmH, (0 ≤ h1 86 2 ∧ h1 86 2 < 60) → Q 0 (leadA l p h1) → qB tFA (d + 1) k_Roofs_lead (h 0 0) (h 0 1) Q 1 [(3, 86), (1, l), (1, p)] [] h1 := by
    intro h1 hb q
    refine TA_Roofs_lead_1 _ _ _ _ _ _ _ (mmD_of (by omega) (mmD_of (by omega) (mmD_of (by omega) ?_)))
    rw [mAdd_ok (by omega) (by omega)]
    exact q
  refine qC_intro (TA_Roofs_lead_0 _ _ _ _ _ _ _ ⟨fun c => b1 h ⟨n1, c⟩ ?_, fun c => pA_forget (b1 _ ?_ ?_)⟩)
  · unfold leadH at hy; rw [if_pos c] at hy; exact hy
  · unfold shiftH; rw [mmS_slot, if_pos rfl]; decide
  · unfold leadH at hy; rw [if_neg c] at hy; exact hy
theorem pA_goFoundWay {p s : Int} {w : Int → Int} {path : Nat → Int} {n : Int} (p1 : 0 ≤ p) (p2 : p < 6) (s0 : 0 ≤ s) (s1 : s ≤ 10) (n2 : n ≤ 10) (e5 : h 96 5 = s) (hp : ∀ k : Nat, (k : Int) < s → h 99 k = path k ∧ 0 ≤ path k ∧ path k < n) (hw : ∀ l, 0 ≤ l → l < n → h 98 l = w l) (f1 : 1 ≤ h 5 4) (f2 : h 5 4 ≤ 20) (ho : ∀ l, 0 ≤ l → l < n → 0 ≤ h (10 + l) 0 ∧ h (10 + l) 0 < 5) (hB : rwB n h)
    (hy : Q (cntN 5 p w path h s.toNat) (turnH p (goN 5 p w path h s.toNat))) : qC tFA (d + 3) k_c_goFoundWay [1, p] h Q := by
  refine qC_intro (TA_c_goFoundWay_0 _ _ _ _ _ _ ?_)
  have key : ∀ (m k : Nat) (w4 : mmV), (k : Int) + m = s → qB tFA (d + 2) k_c_goFoundWay (h 0 0) (h 0 1) Q 1 [(3, 1), (1, p), (1, cntN 5 p w path h k), (1, (k : Int)), w4] [] (goN 5 p w path h k) := by
    intro m
    induction m with
    | zero =>
      intro k w4 hk
      have fk := goN_fr 5 p w path h k
      refine TA_c_goFoundWay_1 _ _ _ _ _ _ _ _ _ ⟨fun _ => qC_intro (TA_Roofs_turnBack_0 _ _ _ _ _ _ (mmD_of (by omega) (mmD_of (by omega) (mmD_of (by omega) (mmD_of (by omega) ?_))))), fun c => absurd (by rw [fk 96 5 (by unfold SwK; omega)]; omega) c⟩
      rw [show s.toNat = k by omega] at hy
      have e : mmS (goN 5 p w path h k) 89 p (goN 5 p w path h k 88 p) 89 p = goN 5 p w path h k 88 p := by rw [mmS_slot, if_pos rfl]
      exact hy
    | succ m ih =>
      intro k w4 hk
      have fk := goN_fr 5 p w path h k
      have bk := goN_B (u := 5) (p := p) (w := w) (path := path) hB k
      obtain ⟨h99, l1, l2⟩ := hp k (by omega)
      generalize hH : goN 5 p w path h k = H at fk bk ⊢
      have e99 : H 99 k = path k := by rw [fk 99 k (by unfold SwK; omega), h99]
      have e98 : H 98 (path k) = w (path k) := by rw [fk 98 _ (by unfold SwK; omega), hw _ l1 l2]
      have eo : H (10 + path k) 0 = h (10 + path k) 0 := fk _ 0 (by unfold SwK; omega)
      have ho' := ho _ l1 l2
      have e4 : H 5 4 = h 5 4 := fk 5 4 (by unfold SwK; omega)
      have tb1 := bk.1 _ l1 l2
      have cb := cntN_B 5 p w path h k
      refine TA_c_goFoundWay_1 _ _ _ _ _ _ _ _ _ ⟨fun c => absurd c (by rw [fk 96 5 (by unfold SwK; omega)]; omega), fun _ => ?_⟩
      rw [e99, e98, mAdd_ok (a := (k : Int)) (by omega) (by omega), mAdd_ok (a := cntN 5 p w path h k) (by omega) (by omega)]
      simp (disch := omega) only [mmD_iff, mmG_iff, Bool.and_eq_true, Bool.or_eq_true, Nat.beq_refl, true_and, and_true, Option.getD_none, Option.isNone_none, decide_eq_true_eq, lc_lt0, lc_gt0, lc_le0, lc_ge0, lc_eq0, lc_ne0, ite_true, ite_false, fc_tFA_9, fn_tFA_9, fc_tFB_9, fn_tFB_9, sh_9, wn_9, fc_tFA_50, fn_tFA_50, fc_tFB_50, fn_tFB_50, sh_50, wn_50, fc_tFA_20, fn_tFA_20, fc_tFB_20, fn_tFB_20, sh_20, wn_20, fc_tFA_61, fn_tFA_61, fc_tFB_61, fn_tFB_61, sh_61, wn_61, fc_tFA_27, fn_tFA_27, fc_tFB_27, fn_tFB_27, sh_27, wn_27, fc_tFA_68, fn_tFA_68, fc_tFB_68, fn_tFB_68, sh_68, wn_68, fc_tFA_91, fn_tFA_91, fc_tFB_91, fn_tFB_91, sh_91, wn_91]
      have hpay : mmS H 90 (H (10 + path k) 0) (mAdd (H 90 (H (10 + path k) 0)) (w (path k))) = payH 5 (path k) (w (path k)) H := rfl
      rw [hpay]
      have q87 : ∀ i, payH 5 (path k) (w (path k)) H 87 i = H 87 i := fun i => by unfold payH; rw [mmS_cell (by omega)]
      have q4 : payH 5 (path k) (w (path k)) H 5 4 = H 5 4 := by unfold payH; rw [mmS_cell (by omega)]
      have qm : payH 5 (path k) (w (path k)) H (21 + p) 0 = H (21 + p) 0 := by unfold payH; rw [mmS_cell (by omega)]
      have q862 : payH 5 (path k) (w (path k)) H 86 2 = H 86 2 := by unfold payH; rw [mmS_cell (by omega)]
      have hb2 := bk.2
      refine ⟨by omega, by omega, by omega, by omega, by omega, by omega, pA_breaksAt p1 p2 l1 (by omega) (by rw [q4, e4]; exact f1) (by rw [q4, e4]; exact f2) (by rw [q87]; omega) (by rw [q87]; omega) (fun x hx => ?_)⟩
      rw [q87, q4, qm] at hx
      refine ⟨fun c => ?_, fun c => ⟨by omega, by omega, ?_⟩⟩
      · have hb : ¬ brkO 5 p (path k) H = true := fun z => hx.neg c (brkO_iff.mp z)
        have e1 : goN 5 p w path h (k + 1) = payH 5 (path k) (w (path k)) H := by
          unfold goN stepH
          rw [hH, if_neg hb]
        have e2 : cntN 5 p w path h (k + 1) = cntN 5 p w path h k := by
          rw [cntN, hH, if_neg hb]
        have := ih (k + 1) (1, path k) (by omega)
        rw [e1, e2, show (((k + 1 : Nat)) : Int) = (k : Int) + 1 by omega] at this
        exact this
      · have hb : brkO 5 p (path k) H = true := brkO_iff.mpr (hx.pos c)
        rw [q87, mSub_ok (by omega) (by omega)]
        refine pA_lead (by rw [mmS_cell (by omega), q862]; omega) (by rw [mmS_cell (by omega), q862]; omega) ?_
        have e1 : goN 5 p w path h (k + 1) = leadH (path k) p (mmS (payH 5 (path k) (w (path k)) H) 87 (path k) (H 87 (path k) - 1)) := by
          unfold goN stepH
          rw [hH, if_pos hb]
        have e2 : cntN 5 p w path h (k + 1) = cntN 5 p w path h k + 1 := by
          rw [cntN, hH, if_pos hb]
        have := ih (k + 1) (1, path k) (by omega)
        rw [e1, e2, show (((k + 1 : Nat)) : Int) = (k : Int) + 1 by omega] at this
        exact this
  exact key s.toNat 0 (0, 0) (by omega)
end WKA
section WKB
variable {d : Nat} {h m0 : mmH} {Q : Int → mmH → Prop}
theorem pB_forget (hy : Q 0 (shiftH h)) : qC tFB (d + 1) k_Roofs_forgetOldestLed [86] h Q := by
  obtain ⟨⟨a1, a2, a3, b1, b2, b3⟩, s1, s2, s3, w1, w2, w3⟩ := rows91
  refine qC_intro (TB_Roofs_forgetOldestLed_0 _ _ _ _ _ (TB_Roofs_forgetOldestLed_1 _ _ _ _ _ _ ⟨fun q => absurd q (by decide), fun _ => ?_⟩))
  simp only [mmD_iff, mmG_iff, Bool.and_eq_true, Bool.or_eq_true, Nat.beq_refl, true_and, and_true, Option.getD_none, Option.isNone_none, decide_eq_true_eq, lc_lt0, lc_gt0, lc_le0, lc_ge0, lc_eq0, lc_ne0, ite_true, ite_false, a1, a2, a3, b1, b2, b3, s1, s2, s3, w1, w2, w3, Option.getD_some]
  rw [mAdd_ok (by decide) (by decide), show (0 : Int) + 1 = 1 from rfl]
  refine ⟨by omega, by omega, by omega, TB_Roofs_forgetOldestLed_1 _ _ _ _ _ _ ⟨fun q => absurd q (by decide), fun _ => ?_⟩⟩
  simp only [mmD_iff, mmG_iff, Bool.and_eq_true, Bool.or_eq_true, Nat.beq_refl, true_and, and_true, Option.getD_none, Option.isNone_none, decide_eq_true_eq, lc_lt0, lc_gt0, lc_le0, lc_ge0, lc_eq0, lc_ne0, ite_true, ite_false, a1, a2, a3, b1, b2, b3, s1, s2, s3, w1, w2, w3, Option.getD_some]
  rw [mAdd_ok (by decide) (by decide), show (1 : Int) + 1 = 2 from rfl]
  refine ⟨by omega, by omega, by omega, TB_Roofs_forgetOldestLed_1 _ _ _ _ _ _ ⟨fun q => absurd q (by decide), fun _ => ?_⟩⟩
  simp only [mmD_iff, mmG_iff, Bool.and_eq_true, Bool.or_eq_true, Nat.beq_refl, true_and, and_true, Option.getD_none, Option.isNone_none, decide_eq_true_eq, lc_lt0, lc_gt0, lc_le0, lc_ge0, lc_eq0, lc_ne0, ite_true, ite_false, a1, a2, a3, b1, b2, b3, s1, s2, s3, w1, w2, w3, Option.getD_some]
  rw [mAdd_ok (by decide) (by decide), show (2 : Int) + 1 = 3 from rfl]
  exact ⟨by omega, by omega, by omega, TB_Roofs_forgetOldestLed_1 _ _ _ _ _ _ ⟨fun _ => hy, fun q => absurd (by decide) q⟩⟩
theorem pB_lead {l p : Int} (n1 : 0 ≤ h 86 2) (n2 : h 86 2 ≤ 60) (hy : Q 0 (leadH l p h)) : qC tFB (d + 2) k_Roofs_lead [86, l, p] h Q := by
  have b1 : ∀ h1 : mmH, (0 ≤ h1 86 2 ∧ h1 86 2 < 60) → Q 0 (leadA l p h1) → qB tFB (d + 1) k_Roofs_lead (h 0 0) (h 0 1) Q 1 [(3, 86), (1, l), (1, p)] [] h1 := by
    intro h1 hb q
    refine TB_Roofs_lead_1 _ _ _ _ _ _ _ (mmD_of (by omega) (mmD_of (by omega) (mmD_of (by omega) ?_)))
    rw [mAdd_ok (by omega) (by omega)]
    exact q
  refine qC_intro (TB_Roofs_lead_0 _ _ _ _ _ _ _ ⟨fun c => b1 h ⟨n1, c⟩ ?_, fun c => pB_forget (b1 _ ?_ ?_)⟩)
  · unfold leadH at hy; rw [if_pos c] at hy; exact hy
  · unfold shiftH; rw [mmS_slot, if_pos rfl]; decide
  · unfold leadH at hy; rw [if_neg c] at hy; exact hy
theorem pB_goFoundWay {p s : Int} {w : Int → Int} {path : Nat → Int} {n : Int} (p1 : 0 ≤ p) (p2 : p < 6) (s0 : 0 ≤ s) (s1 : s ≤ 10) (n2 : n ≤ 10) (e5 : h 96 5 = s) (hp : ∀ k : Nat, (k : Int) < s → h 99 k = path k ∧ 0 ≤ path k ∧ path k < n) (hw : ∀ l, 0 ≤ l → l < n → h 98 l = w l) (f1 : 1 ≤ h 46 4) (f2 : h 46 4 ≤ 20) (ho : ∀ l, 0 ≤ l → l < n → 0 ≤ h (51 + l) 0 ∧ h (51 + l) 0 < 5) (hB : rwB n h)
    (hy : Q (cntN 46 p w path h s.toNat) (turnH p (goN 46 p w path h s.toNat))) : qC tFB (d + 3) k_c_goFoundWay [1, p] h Q := by
  refine qC_intro (TB_c_goFoundWay_0 _ _ _ _ _ _ ?_)
  have key : ∀ (m k : Nat) (w4 : mmV), (k : Int) + m = s → qB tFB (d + 2) k_c_goFoundWay (h 0 0) (h 0 1) Q 1 [(3, 1), (1, p), (1, cntN 46 p w path h k), (1, (k : Int)), w4] [] (goN 46 p w path h k) := by
    intro m
    induction m with
    | zero =>
      intro k w4 hk
      have fk := goN_fr 46 p w path h k
      refine TB_c_goFoundWay_1 _ _ _ _ _ _ _ _ _ ⟨fun _ => qC_intro (TB_Roofs_turnBack_0 _ _ _ _ _ _ (mmD_of (by omega) (mmD_of (by omega) (mmD_of (by omega) (mmD_of (by omega) ?_))))), fun c => absurd (by rw [fk 96 5 (by unfold SwK; omega)]; omega) c⟩
      rw [show s.toNat = k by omega] at hy
      have e : mmS (goN 46 p w path h k) 89 p (goN 46 p w path h k 88 p) 89 p = goN 46 p w path h k 88 p := by rw [mmS_slot, if_pos rfl]
      exact hy
    | succ m ih =>
      intro k w4 hk
      have fk := goN_fr 46 p w path h k
      have bk := goN_B (u := 46) (p := p) (w := w) (path := path) hB k
      obtain ⟨h99, l1, l2⟩ := hp k (by omega)
      generalize hH : goN 46 p w path h k = H at fk bk ⊢
      have e99 : H 99 k = path k := by rw [fk 99 k (by unfold SwK; omega), h99]
      have e98 : H 98 (path k) = w (path k) := by rw [fk 98 _ (by unfold SwK; omega), hw _ l1 l2]
      have eo : H (51 + path k) 0 = h (51 + path k) 0 := fk _ 0 (by unfold SwK; omega)
      have ho' := ho _ l1 l2
      have e4 : H 46 4 = h 46 4 := fk 46 4 (by unfold SwK; omega)
      have tb1 := bk.1 _ l1 l2
      have cb := cntN_B 46 p w path h k
      refine TB_c_goFoundWay_1 _ _ _ _ _ _ _ _ _ ⟨fun c => absurd c (by rw [fk 96 5 (by unfold SwK; omega)]; omega), fun _ => ?_⟩
      rw [e99, e98, mAdd_ok (a := (k : Int)) (by omega) (by omega), mAdd_ok (a := cntN 46 p w path h k) (by omega) (by omega)]
      simp (disch := omega) only [mmD_iff, mmG_iff, Bool.and_eq_true, Bool.or_eq_true, Nat.beq_refl, true_and, and_true, Option.getD_none, Option.isNone_none, decide_eq_true_eq, lc_lt0, lc_gt0, lc_le0, lc_ge0, lc_eq0, lc_ne0, ite_true, ite_false, fc_tFA_9, fn_tFA_9, fc_tFB_9, fn_tFB_9, sh_9, wn_9, fc_tFA_50, fn_tFA_50, fc_tFB_50, fn_tFB_50, sh_50, wn_50, fc_tFA_20, fn_tFA_20, fc_tFB_20, fn_tFB_20, sh_20, wn_20, fc_tFA_61, fn_tFA_61, fc_tFB_61, fn_tFB_61, sh_61, wn_61, fc_tFA_27, fn_tFA_27, fc_tFB_27, fn_tFB_27, sh_27, wn_27, fc_tFA_68, fn_tFA_68, fc_tFB_68, fn_tFB_68, sh_68, wn_68, fc_tFA_91, fn_tFA_91, fc_tFB_91, fn_tFB_91, sh_91, wn_91]
      have hpay : mmS H 90 (H (51 + path k) 0) (mAdd (H 90 (H (51 + path k) 0)) (w (path k))) = payH 46 (path k) (w (path k)) H := rfl
      rw [hpay]
      have q87 : ∀ i, payH 46 (path k) (w (path k)) H 87 i = H 87 i := fun i => by unfold payH; rw [mmS_cell (by omega)]
      have q4 : payH 46 (path k) (w (path k)) H 46 4 = H 46 4 := by unfold payH; rw [mmS_cell (by omega)]
      have qm : payH 46 (path k) (w (path k)) H (62 + p) 0 = H (62 + p) 0 := by unfold payH; rw [mmS_cell (by omega)]
      have q862 : payH 46 (path k) (w (path k)) H 86 2 = H 86 2 := by unfold payH; rw [mmS_cell (by omega)]
      have hb2 := bk.2
      refine ⟨by omega, by omega, by omega, by omega, by omega, by omega, pB_breaksAt p1 p2 l1 (by omega) (by rw [q4, e4]; exact f1) (by rw [q4, e4]; exact f2) (by rw [q87]; omega) (by rw [q87]; omega) (fun x hx => ?_)⟩
      rw [q87, q4, qm] at hx
      refine ⟨fun c => ?_, fun c => ⟨by omega, by omega, ?_⟩⟩
      · have hb : ¬ brkO 46 p (path k) H = true := fun z => hx.neg c (brkO_iff.mp z)
        have e1 : goN 46 p w path h (k + 1) = payH 46 (path k) (w (path k)) H := by
          unfold goN stepH
          rw [hH, if_neg hb]
        have e2 : cntN 46 p w path h (k + 1) = cntN 46 p w path h k := by
          rw [cntN, hH, if_neg hb]
        have := ih (k + 1) (1, path k) (by omega)
        rw [e1, e2, show (((k + 1 : Nat)) : Int) = (k : Int) + 1 by omega] at this
        exact this
      · have hb : brkO 46 p (path k) H = true := brkO_iff.mpr (hx.pos c)
        rw [q87, mSub_ok (by omega) (by omega)]
        refine pB_lead (by rw [mmS_cell (by omega), q862]; omega) (by rw [mmS_cell (by omega), q862]; omega) ?_
        have e1 : goN 46 p w path h (k + 1) = leadH (path k) p (mmS (payH 46 (path k) (w (path k)) H) 87 (path k) (H 87 (path k) - 1)) := by
          unfold goN stepH
          rw [hH, if_pos hb]
        have e2 : cntN 46 p w path h (k + 1) = cntN 46 p w path h k + 1 := by
          rw [cntN, hH, if_pos hb]
        have := ih (k + 1) (1, path k) (by omega)
        rw [e1, e2, show (((k + 1 : Nat)) : Int) = (k : Int) + 1 by omega] at this
        exact this
  exact key s.toNat 0 (0, 0) (by omega)
end WKB
