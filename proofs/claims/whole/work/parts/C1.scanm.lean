/-! ===== mm: reading a text, the reference: bytes, words, numbers ===== -/
/-- where both stand: P: the last name's place is the same -/
def RS (P : Prop) (g h : mmH) : Prop := h 282 5 = g 3 0 ∧ h 282 6 = g 3 1 ∧ h 282 3 = g 3 3 ∧ (∀ i, 0 ≤ i → i < 1600 → h 283 i = g 2 i) ∧ (g 3 0 = 0 → h 282 2 = g 3 4 ∧ h 282 4 = g 3 6 ∧ (P → h 282 38 = g 3 5))
def MsK (k i : Int) : Prop := k = 282 ∧ (i = 2 ∨ i = 4 ∨ i = 5 ∨ i = 6 ∨ i = 38)
section RR
variable {P P' : Prop} {v : Int} {g g' h h' : mmH}
theorem RS_at {a : Int} (hR : RS P g h) : RS P (mmS g 3 4 a) (mmS h 282 2 a) := by
  obtain ⟨r1, r2, r3, r4, r5⟩ := hR
  refine ⟨?_, ?_, ?_, fun i i1 i2 => ?_, fun c => ⟨?_, ?_, fun p => ?_⟩⟩
  · rw [mmS_slot, if_neg (by omega), mmS_slot, if_neg (by omega)]; exact r1
  · rw [mmS_slot, if_neg (by omega), mmS_slot, if_neg (by omega)]; exact r2
  · rw [mmS_slot, if_neg (by omega), mmS_slot, if_neg (by omega)]; exact r3
  · rw [mmS_cell (by omega), mmS_cell (by omega)]; exact r4 i i1 i2
  · rw [mmS_slot, if_pos rfl, mmS_slot, if_pos rfl]
  · rw [mmS_slot, if_neg (by omega)] at c
    rw [mmS_slot, if_neg (by omega), mmS_slot, if_neg (by omega)]; exact (r5 c).2.1
  · rw [mmS_slot, if_neg (by omega)] at c
    rw [mmS_slot, if_neg (by omega), mmS_slot, if_neg (by omega)]; exact (r5 c).2.2 p
theorem RS_we {a : Int} (hR : RS P g h) : RS P (mmS g 3 6 a) (mmS h 282 4 a) := by
  obtain ⟨r1, r2, r3, r4, r5⟩ := hR
  refine ⟨?_, ?_, ?_, fun i i1 i2 => ?_, fun c => ⟨?_, ?_, fun p => ?_⟩⟩
  · rw [mmS_slot, if_neg (by omega), mmS_slot, if_neg (by omega)]; exact r1
  · rw [mmS_slot, if_neg (by omega), mmS_slot, if_neg (by omega)]; exact r2
  · rw [mmS_slot, if_neg (by omega), mmS_slot, if_neg (by omega)]; exact r3
  · rw [mmS_cell (by omega), mmS_cell (by omega)]; exact r4 i i1 i2
  · rw [mmS_slot, if_neg (by omega)] at c
    rw [mmS_slot, if_neg (by omega), mmS_slot, if_neg (by omega)]; exact (r5 c).1
  · rw [mmS_slot, if_pos rfl, mmS_slot, if_pos rfl]
  · rw [mmS_slot, if_neg (by omega)] at c
    rw [mmS_slot, if_neg (by omega), mmS_slot, if_neg (by omega)]; exact (r5 c).2.2 p
theorem RS_na {a : Int} (hR : RS P g h) : RS True (mmS g 3 5 a) (mmS h 282 38 a) := by
  obtain ⟨r1, r2, r3, r4, r5⟩ := hR
  refine ⟨?_, ?_, ?_, fun i i1 i2 => ?_, fun c => ⟨?_, ?_, fun p => ?_⟩⟩
  · rw [mmS_slot, if_neg (by omega), mmS_slot, if_neg (by omega)]; exact r1
  · rw [mmS_slot, if_neg (by omega), mmS_slot, if_neg (by omega)]; exact r2
  · rw [mmS_slot, if_neg (by omega), mmS_slot, if_neg (by omega)]; exact r3
  · rw [mmS_cell (by omega), mmS_cell (by omega)]; exact r4 i i1 i2
  · rw [mmS_slot, if_neg (by omega)] at c
    rw [mmS_slot, if_neg (by omega), mmS_slot, if_neg (by omega)]; exact (r5 c).1
  · rw [mmS_slot, if_neg (by omega)] at c
    rw [mmS_slot, if_neg (by omega), mmS_slot, if_neg (by omega)]; exact (r5 c).2.1
  · rw [mmS_slot, if_pos rfl, mmS_slot, if_pos rfl]
/-- a fault on both sides -/
theorem RS_bad {w p : Int} (hR : RS P g h) (ok : g 3 0 = 0) (hw : w ≠ 0) : RS P' (flH w p g) (mmS (mmS h 282 5 w) 282 6 p) := by
  obtain ⟨r1, r2, r3, r4, r5⟩ := hR
  unfold flH
  rw [if_neg (fun q => q ok)]
  refine ⟨?_, ?_, ?_, fun i i1 i2 => ?_, fun c => ?_⟩
  · rw [mmS_slot, if_neg (by omega), mmS_slot, if_pos rfl, mmS_slot, if_neg (by omega), mmS_slot, if_pos rfl]
  · rw [mmS_slot, if_pos rfl, mmS_slot, if_pos rfl]
  · rw [mmS_slot, if_neg (by omega), mmS_slot, if_neg (by omega), mmS_slot, if_neg (by omega), mmS_slot, if_neg (by omega)]; exact r3
  · rw [mmS_cell (by omega), mmS_cell (by omega), mmS_cell (by omega), mmS_cell (by omega)]; exact r4 i i1 i2
  · rw [mmS_slot, if_neg (by omega), mmS_slot, if_pos rfl] at c
    exact absurd c hw
/-- behind a fault the one side may go on -/
theorem RS_gone (hv : v = 5 ∨ v = 46) (hR : RS P g h) (bad : g 3 0 ≠ 0) (hs : Stk g g') (hF : Fr (ScK v) g g') : RS P' g' h := by
  obtain ⟨r1, r2, r3, r4, r5⟩ := hR
  obtain ⟨s1, s2⟩ := hs bad
  refine ⟨by rw [s1]; exact r1, by rw [s2]; exact r2, ?_, fun i i1 i2 => ?_, fun c => absurd (by rw [← s1]; exact c) bad⟩
  · rw [hF 3 3 (by unfold ScK; omega)]; exact r3
  · rw [hF 2 i (by unfold ScK; omega)]; exact r4 i i1 i2
theorem RS_w (hR : RS True g h) : RS P g h := ⟨hR.1, hR.2.1, hR.2.2.1, hR.2.2.2.1, fun c => ⟨(hR.2.2.2.2 c).1, (hR.2.2.2.2 c).2.1, fun _ => (hR.2.2.2.2 c).2.2 trivial⟩⟩
/-- both sides' heaps elsewhere -/
theorem RS_out (hR : RS P g h) (hF : ∀ k i, (k = 3 ∧ i ≤ 6) ∨ k = 2 → g' k i = g k i) (hG : ∀ k i, (k = 282 ∧ (i ≤ 6 ∨ i = 38)) ∨ k = 283 → h' k i = h k i) : RS P g' h' := by
  obtain ⟨r1, r2, r3, r4, r5⟩ := hR
  refine ⟨?_, ?_, ?_, fun i i1 i2 => ?_, fun c => ?_⟩
  · rw [hF 3 0 (by omega), hG 282 5 (by omega)]; exact r1
  · rw [hF 3 1 (by omega), hG 282 6 (by omega)]; exact r2
  · rw [hF 3 3 (by omega), hG 282 3 (by omega)]; exact r3
  · rw [hF 2 i (by omega), hG 283 i (by omega)]; exact r4 i i1 i2
  · rw [hF 3 0 (by omega)] at c
    rw [hF 3 4 (by omega), hG 282 2 (by omega), hF 3 6 (by omega), hG 282 4 (by omega), hF 3 5 (by omega), hG 282 38 (by omega)]
    exact r5 c
end RR
section RQ
variable {d : Nat} {P : Prop} {v : Int} {g h m : mmH} {Q : Int → mmH → Prop}
theorem q_m_fail {w p p' : Int} (hv : v = 5 ∨ v = 46) (hR : RS P g h) (hF : Fr MsK m h) (hw : w ≠ 0) (hp : g 3 0 = 0 → p' = p) (hy : ∀ h', RS P (flH w p g) h' → Fr MsK m h' → Q 0 h') : qC tFM (d + 1) k_m_fail [282, w, p'] h Q := by
  refine qC_intro (T_m_fail_0 _ _ _ _ _ _ _ ⟨fun c => ?_, fun c => ?_⟩)
  · rw [hR.1] at c
    rw [hp c]
    exact hy _ (RS_bad hR c hw) ((hF.put (by unfold MsK; omega)).put (by unfold MsK; omega))
  · rw [hR.1] at c
    exact hy _ (RS_gone hv hR c sk_fl fr_fl) hF
theorem q_m_isLetter {c : Int} (hy : ∀ x, YN x (isLt c = true) → Q x h) : qC tFM (d + 1) k_m_isLetter [c] h Q := by
  refine qC_intro (T_m_isLetter_0 _ _ _ _ _ _ ⟨fun q => hy _ (YN.no ?_), fun q => ⟨fun q2 => hy _ (YN.no ?_), fun q2 => hy _ (YN.yes ?_)⟩⟩) <;> unfold isLt <;> rw [decide_eq_true_iff] <;> omega
theorem q_m_isDigit {c : Int} (hy : ∀ x, YN x (isDg c = true) → Q x h) : qC tFM (d + 1) k_m_isDigit [c] h Q := by
  refine qC_intro (T_m_isDigit_0 _ _ _ _ _ _ ⟨fun q => hy _ (YN.no ?_), fun q => ⟨fun q2 => hy _ (YN.no ?_), fun q2 => hy _ (YN.yes ?_)⟩⟩) <;> unfold isDg <;> rw [decide_eq_true_iff] <;> omega
set_option maxRecDepth 100000 in
theorem q_m_look (hv : v = 5 ∨ v = 46) (hS : Sc v g) (ok : g 3 0 = 0) (hR : RS P g h) (hF : Fr MsK m h) (hy : ∀ h', RS P (skH g) h' → Fr MsK m h' → Q (hrV (skH g)) h') : qC tFM (d + 1) k_m_look [282] h Q := by
  refine qC_intro ?_
  have key : ∀ (n : Nat) (a : mmH) (b : mmH), Sc v a → a 3 0 = 0 → RS P a b → Fr MsK m b → (a 3 3 - a 3 4).toNat ≤ n → skH a = skH g → qB tFM d k_m_look (h 0 0) (h 0 1) Q 0 [(3, 282)] [] b := by
    intro n
    induction n with
    | zero =>
      intro a b aS ao aR bF hn e
      obtain ⟨r1, r2, r3, r4, r5⟩ := aR
      obtain ⟨t1, t2, t3⟩ := r5 ao
      have e0 : skH a = a := skd_id (runT_stay (Or.inl (by omega)))
      have en : a 3 3 ≤ a 3 4 := by omega
      refine T_m_look_0 _ _ _ _ _ ⟨fun _ => T_m_look_2 _ _ _ _ _ ⟨fun _ => ?_, fun c => absurd (by omega) c⟩, fun c => absurd (by omega) c⟩
      have hh : hrV a = -1 := by unfold hrV; rw [if_neg (by omega)]
      rw [← e, e0, hh] at hy
      exact hy b ⟨r1, r2, r3, r4, r5⟩ bF
    | succ n ih =>
      intro a b aS ao aR bF hn e
      obtain ⟨r1, r2, r3, r4, r5⟩ := id aR
      obtain ⟨t1, t2, t3⟩ := r5 ao
      have s := aS.2.1
      have stop : (a 3 3 ≤ a 3 4 ∨ isBk (a 2 (a 3 4)) = false) → qB tFM d k_m_look (h 0 0) (h 0 1) Q 2 [(3, 282)] [] b := fun q => by
        have e0 : skH a = a := skd_id (runT_stay q)
        rw [← e, e0] at hy
        refine T_m_look_2 _ _ _ _ _ ⟨fun c => ?_, fun c => ?_⟩
        · have hh : hrV a = -1 := by unfold hrV; rw [if_neg (by omega)]
          rw [hh] at hy
          exact hy b aR bF
        · have hh : hrV a = a 2 (a 3 4) := by unfold hrV; rw [if_pos (by omega)]
          rw [mmD_iff, t1, r4 _ (by omega) (by omega)]
          rw [hh] at hy
          exact ⟨by omega, hy b aR bF⟩
      refine T_m_look_0 _ _ _ _ _ ⟨fun c => stop (Or.inl (by omega)), fun c => ?_⟩
      have c' : a 3 4 < a 3 3 := by omega
      rw [mmD_iff, mmD_iff, t1, r4 _ (by omega) (by omega), mAdd_ok (by omega) (by omega)]
      have nx : isBk (a 2 (a 3 4)) = true → qB tFM d k_m_look (h 0 0) (h 0 1) Q 0 [(3, 282)] [] (mmS b 282 2 (a 3 4 + 1)) := fun hb =>
        ih (stpH a) _ (Sc_stp hv aS c') (by unfold stpH; rw [mmS_slot, if_neg (by omega)]; exact ao) (RS_at aR) (bF.put (by unfold MsK; omega)) (by unfold stpH; rw [mmS_slot, if_neg (by omega), mmS_slot, if_pos rfl]; omega) (by rw [skH_step c' hb]; exact e)
      exact ⟨by omega, fun c2 => nx (by unfold isBk; rw [decide_eq_true_iff]; exact Or.inr c2), fun c2 => ⟨by omega, fun c3 => stop (Or.inr (by unfold isBk; rw [decide_eq_false_iff_not]; omega)), fun c3 => nx (by unfold isBk; rw [decide_eq_true_iff]; omega)⟩⟩
  exact key _ g h hS ok hR hF (Nat.le_refl _) rfl
theorem skH_30 (g : mmH) : skH g 3 0 = g 3 0 := by unfold skH; rw [mmS_slot, if_neg (by omega)]
set_option maxRecDepth 100000 in
theorem q_m_isHere {k : Int} (hv : v = 5 ∨ v = 46) (k1 : 0 ≤ k) (k2 : k < 29) (hS : Sc v g) (hR : RS P g h) (hF : Fr MsK m h) (hy : ∀ x h', YN x (g 3 0 = 0 ∧ wdV (skH g) = k) → RS P (skH g) h' → Fr MsK m h' → Q x h') : qC tFM (d + 2) k_m_isHere [282, 284 + k] h Q := by
  refine qC_intro (T_m_isHere_0 _ _ _ _ _ _ ⟨fun c => ?_, fun c => ?_⟩)
  · rw [hR.1] at c
    exact hy _ _ (YN.no (fun q => c q.1)) (RS_gone hv hR c sk_sk (fr_sk (v := v))) hF
  · have ok : g 3 0 = 0 := by rw [← hR.1]; exact Decidable.of_not_not c
    refine q_m_look hv hS ok hR hF (fun h1 R1 F1 => ?_)
    have sS := Sc_sk hv hS
    have so : skH g 3 0 = 0 := by rw [skH_30]; exact ok
    generalize hs : skH g = s at R1 sS hy so ⊢
    have wi := wd_iff sS k1 k2
    obtain ⟨r1, r2, r3, r4, r5⟩ := id R1
    obtain ⟨t1, t2, t3⟩ := r5 so
    have b := sS.2.1
    have lg := leV_ge sS
    have wf := wlF ⟨k.toNat, by omega⟩
    simp only [] at wf
    rw [show ((k.toNat : Nat) : Int) = k by omega] at wf
    obtain ⟨-, wsh, wl1, wl2, -⟩ := wf
    refine q_m_isLetter (fun x hx => ⟨fun c2 => hy _ _ (YN.no (fun q => ?_)) R1 F1, fun c2 => ⟨fun c3 => ?_, fun c3 => hy _ _ (YN.no (fun q => ?_)) R1 F1⟩⟩)
    · -- no letter
      have hl : leV s = s 3 4 := by
        refine runT_stay ?_
        by_cases q3 : s 3 4 < s 3 3
        · right
          have := hx.neg c2
          unfold hrV at this
          rw [if_pos q3] at this
          exact Bool.eq_false_iff.mpr this
        · left; omega
      exact (wi.mp q.2).1 (Or.inl hl)
    · rw [t1, t2] at c3
      have hr := hx.pos c2
      have hb : s 3 4 < s 3 3 := by
        by_cases q : s 3 4 < s 3 3
        · exact q
        · unfold hrV at hr; rw [if_neg q] at hr; exact absurd hr (by decide)
      -- comparing
      have b6 : ∀ kk, leV s - s 3 4 = (((wlL.getD k.toNat []).length : Nat) : Int) → qB tFM (d + 1) k_m_isHere (h 0 0) (h 0 1) Q 6 [(3, 282), (3, 284 + k), (1, kk), (1, 0)] [] h1 := by
        intro kk el
        have hnd : ¬ (leV s = s 3 4 ∨ 6 < leV s - s 3 4 ∨ s 3 4 = s 3 6) := by omega
        have key : ∀ (j i : Nat), i + j = (wlL.getD k.toNat []).length → (∀ z : Nat, z < i → s 2 (s 3 4 + z) - 96 = (wlL.getD k.toNat []).getD z 0) → qB tFM (d + 1) k_m_isHere (h 0 0) (h 0 1) Q 6 [(3, 282), (3, 284 + k), (1, kk), (1, (i : Int))] [] h1 := by
          intro j
          induction j with
          | zero =>
            intro i hi hz
            refine T_m_isHere_6 _ _ _ _ _ _ _ _ ?_
            rw [wsh, mmG_iff]
            refine ⟨rfl, fun _ => hy _ _ (YN.yes ⟨ok, wi.mpr ⟨hnd, (ltrs_iff _ _ _ _).mpr ⟨by omega, fun z hz2 => hz z (by omega)⟩⟩⟩) R1 F1, fun c => absurd (show ((wlL.getD k.toNat []).length : Int) ≤ (i : Int) by omega) c⟩
          | succ j ih =>
            intro i hi hz
            have wc := wlC ⟨k.toNat, by omega⟩ ⟨i, by omega⟩ (by show i < (wlL.getD k.toNat []).length; omega)
            simp only [] at wc
            rw [show ((k.toNat : Nat) : Int) = k by omega] at wc
            refine T_m_isHere_6 _ _ _ _ _ _ _ _ ?_
            rw [wsh, mmG_iff, mmG_iff, mmD_iff, mmD_iff, wc, t1, mAdd_ok (a := s 3 4) (by omega) (by omega), mAdd_ok (a := (i : Int)) (by omega) (by omega), r4 _ (by omega) (by omega), Option.getD_some, show (i : Int) + 1 = ((i + 1 : Nat) : Int) by omega]
            refine ⟨rfl, fun c => absurd (show ((wlL.getD k.toNat []).length : Int) ≤ (i : Int) from c) (by omega), fun _ => ⟨by omega, rfl, ⟨by omega, show (i : Int) < ((wlL.getD k.toNat []).length : Int) by omega⟩, fun c4 => ih (i + 1) (by omega) (fun z hz2 => ?_), fun c4 => hy _ _ (YN.no (fun q => ?_)) R1 F1⟩⟩
            · by_cases e : z = i
              · rw [e, c4]; omega
              · exact hz z (by omega)
            · have h2 := ((ltrs_iff _ _ _ _).mp (wi.mp q.2).2).2
              have := h2 i (by omega)
              omega
        exact key (wlL.getD k.toNat []).length 0 (by omega) (fun z hz => absurd hz (by omega))
      have done : ∀ e, e = leV s → ((mSub e (h1 282 2)) = ((tSh (284 + k)).2 : Int) → qB tFM (d + 1) k_m_isHere (h 0 0) (h 0 1) Q 6 [(3, 282), (3, 284 + k), (1, e), (1, 0)] [] h1) ∧ (¬ ((mSub e (h1 282 2)) = ((tSh (284 + k)).2 : Int)) → Q 0 h1) := by
        intro e ee
        rw [ee, t1, mSub_ok (by omega) (by omega), wsh]
        refine ⟨fun c4 => b6 _ c4, fun c4 => hy _ _ (YN.no (fun q => c4 ?_)) R1 F1⟩
        have := ((ltrs_iff _ _ _ _).mp (wi.mp q.2).2).1
        show leV s - s 3 4 = (((wlL.getD k.toNat []).length : Nat) : Int)
        omega
      have key : ∀ (n : Nat) (i : Int), s 3 4 ≤ i → (s 3 3 - i).toNat ≤ n → runT isLt (s 2) (s 3 3) i = leV s → qB tFM (d + 1) k_m_isHere (h 0 0) (h 0 1) Q 3 [(3, 282), (3, 284 + k), (1, i), (0, 0)] [] h1 := by
        intro n
        induction n with
        | zero =>
          intro i hi hn e
          rw [runT_stay (Or.inl (by omega))] at e
          refine T_m_isHere_3 _ _ _ _ _ _ _ ⟨fun _ => ?_, fun c => absurd (by omega) c⟩
          rw [wsh, mmG_iff]
          refine ⟨rfl, ?_⟩
          have := done i e
          rw [wsh] at this
          exact this
        | succ n ih =>
          intro i hi hn e
          refine T_m_isHere_3 _ _ _ _ _ _ _ ⟨fun c => ?_, fun c => ?_⟩
          · rw [runT_stay (Or.inl (by omega))] at e
            rw [wsh, mmG_iff]
            refine ⟨rfl, ?_⟩
            have := done i e
            rw [wsh] at this
            exact this
          · rw [mmD_iff, r4 i (by omega) (by omega)]
            refine ⟨by omega, q_m_isLetter (fun y hyy => ⟨fun c4 => ?_, fun c4 => ?_⟩)⟩
            · rw [runT_stay (Or.inr (Bool.eq_false_iff.mpr (hyy.neg c4)))] at e
              rw [wsh, mmG_iff]
              refine ⟨rfl, ?_⟩
              have := done i e
              rw [wsh] at this
              exact this
            · rw [mAdd_ok (by omega) (by omega)]
              refine ih (i + 1) (by omega) (by omega) ?_
              rw [← runT_step (by omega) (hyy.pos c4)]
              exact e
      rw [t1]
      exact key _ (s 3 4) (Int.le_refl _) (Nat.le_refl _) rfl
    · rw [t1, t2] at c3
      exact (wi.mp q.2).1 (Or.inr (Or.inr (Decidable.of_not_not c3)))
theorem q_m_takes {k : Int} (hv : v = 5 ∨ v = 46) (k1 : 0 ≤ k) (k2 : k < 29) (hS : Sc v g) (hR : RS P g h) (hF : Fr MsK m h) (hn : ∀ h', ¬ (g 3 0 = 0 ∧ wdV (skH g) = k) → RS P (skH g) h' → Fr MsK m h' → Q 0 h') (hy : ∀ h', g 3 0 = 0 → wdV (skH g) = k → RS P (psH (skH g)) h' → Fr MsK m h' → Q 1 h') : qC tFM (d + 3) k_m_takes [282, 284 + k] h Q := by
  have wf := wlF ⟨k.toNat, by omega⟩
  simp only [] at wf
  rw [show ((k.toNat : Nat) : Int) = k by omega] at wf
  obtain ⟨-, wsh, wl1, wl2, -⟩ := wf
  have sS := Sc_sk hv hS
  have lg := leV_ge sS
  have b := sS.2.1
  refine qC_intro (T_m_takes_0 _ _ _ _ _ _ (q_m_isHere hv k1 k2 hS hR hF (fun x h1 hx R1 F1 => ⟨fun c => ?_, fun c => hn h1 (hx.neg (Decidable.of_not_not c)) R1 F1⟩)))
  obtain ⟨ok, hw⟩ := hx.pos c
  have wi := (wd_iff sS k1 k2).mp hw
  have le := ((ltrs_iff _ _ _ _).mp wi.2).1
  have t1 := (R1.2.2.2.2 (by rw [skH_30]; exact ok)).1
  rw [wsh, mmG_iff, t1, mAdd_ok (by show -2147483648 ≤ _ + (((wlL.getD k.toNat []).length : Nat) : Int); omega) (by show skH g 3 4 + (((wlL.getD k.toNat []).length : Nat) : Int) < _; omega)]
  refine ⟨rfl, ?_⟩
  have el : skH g 3 4 + (((102, (wlL.getD k.toNat []).length) : Nat × Nat).2 : Int) = leV (skH g) := by
    show skH g 3 4 + (((wlL.getD k.toNat []).length : Nat) : Int) = leV (skH g)
    omega
  rw [el]
  refine hy _ ok hw (RS_we (RS_at R1)) ((F1.put (by unfold MsK; omega)).put (by unfold MsK; omega))
theorem q_m_asks {k : Int} (hv : v = 5 ∨ v = 46) (k1 : 0 ≤ k) (k2 : k < 29) (hS : Sc v g) (hR : RS P g h) (hF : Fr MsK m h) (hy : ∀ h', RS P (twH k g) h' → Fr MsK m h' → Q 0 h') : qC tFM (d + 4) k_m_asks [282, 284 + k] h Q := by
  refine qC_intro (T_m_asks_0 _ _ _ _ _ _ ⟨fun c => ?_, fun c => ?_⟩)
  · rw [hR.1] at c
    exact hy _ (RS_gone hv hR c sk_tw (fr_tw (v := v))) hF
  · have ok : g 3 0 = 0 := by rw [← hR.1]; exact Decidable.of_not_not c
    have so : skH g 3 0 = 0 := by rw [skH_30]; exact ok
    unfold twH at hy
    refine q_m_takes hv k1 k2 hS hR hF (fun h1 hn R1 F1 => ⟨fun c => absurd rfl c, fun _ => q_m_fail hv R1 F1 (by omega) (fun _ => (R1.2.2.2.2 so).1) (fun h2 R2 F2 => ?_)⟩) (fun h1 _ hw R1 F1 => ⟨fun _ => ?_, fun c => absurd (by omega) c⟩)
    · rw [if_neg (fun q => hn ⟨ok, q⟩)] at hy
      exact hy _ R2 F2
    · rw [if_pos hw] at hy
      exact hy _ R1 F1
theorem q_m_takesSign {c : Int} (hv : v = 5 ∨ v = 46) (hc : c ≠ -1) (hS : Sc v g) (hR : RS P g h) (hF : Fr MsK m h) (hn : ∀ h', ¬ (g 3 0 = 0 ∧ hrV (skH g) = c) → RS P (skH g) h' → Fr MsK m h' → Q 0 h') (hy : ∀ h', g 3 0 = 0 → hrV (skH g) = c → RS P (stpH (skH g)) h' → Fr MsK m h' → Q 1 h') : qC tFM (d + 2) k_m_takesSign [282, c] h Q := by
  refine qC_intro (T_m_takesSign_0 _ _ _ _ _ _ ⟨fun q => ?_, fun q => ?_⟩)
  · rw [hR.1] at q
    exact hn _ (fun z => q z.1) (RS_gone hv hR q sk_sk (fr_sk (v := v))) hF
  · have ok : g 3 0 = 0 := by rw [← hR.1]; exact Decidable.of_not_not q
    have sS := Sc_sk hv hS
    have b := sS.2.1
    refine q_m_look hv hS ok hR hF (fun h1 R1 F1 => ⟨fun z => ?_, fun z => hn h1 (fun y => z y.2) R1 F1⟩)
    have hl := hrV_lt z hc
    have t1 := (R1.2.2.2.2 (by rw [skH_30]; exact ok)).1
    rw [t1, mAdd_ok (by omega) (by omega)]
    exact hy _ ok z (RS_at R1) (F1.put (by unfold MsK; omega))
theorem q_m_asksSign {c : Int} (hv : v = 5 ∨ v = 46) (hc : c ≠ -1) (hS : Sc v g) (hR : RS P g h) (hF : Fr MsK m h) (hy : ∀ h', RS P (tsH c g) h' → Fr MsK m h' → Q 0 h') : qC tFM (d + 3) k_m_asksSign [282, c] h Q := by
  refine qC_intro (T_m_asksSign_0 _ _ _ _ _ _ ⟨fun q => ?_, fun q => ?_⟩)
  · rw [hR.1] at q
    exact hy _ (RS_gone hv hR q sk_ts (fr_ts (v := v))) hF
  · have ok : g 3 0 = 0 := by rw [← hR.1]; exact Decidable.of_not_not q
    have so : skH g 3 0 = 0 := by rw [skH_30]; exact ok
    unfold tsH at hy
    refine q_m_takesSign hv hc hS hR hF (fun h1 hn R1 F1 => ⟨fun c => absurd rfl c, fun _ => q_m_fail hv R1 F1 (by omega) (fun _ => (R1.2.2.2.2 so).1) (fun h2 R2 F2 => ?_)⟩) (fun h1 _ hw R1 F1 => ⟨fun _ => ?_, fun c => absurd (by omega) c⟩)
    · rw [if_neg (fun q => hn ⟨ok, q⟩)] at hy
      exact hy _ R2 F2
    · rw [if_pos hw] at hy
      exact hy _ R1 F1
set_option maxRecDepth 100000 in
theorem q_m_number {lo hi : Int} (hv : v = 5 ∨ v = 46) (hS : Sc v g) (hR : RS P g h) (hF : Fr MsK m h) (hy : ∀ x h', (nuH lo hi g 3 0 = 0 → x = nuV (skH g)) → RS P (nuH lo hi g) h' → Fr MsK m h' → Q x h') : qC tFM (d + 2) k_m_number [282, lo, hi] h Q := by
  refine qC_intro (T_m_number_0 _ _ _ _ _ _ _ ⟨fun c => ?_, fun c => ?_⟩)
  · have ok : g 3 0 = 0 := by rw [← hR.1]; exact c
    have so : skH g 3 0 = 0 := by rw [skH_30]; exact ok
    have sS := Sc_sk hv hS
    refine q_m_look hv hS ok hR hF (fun h1 R1 F1 => ?_)
    unfold nuH at hy
    generalize hs : skH g = s at R1 sS hy so ⊢
    obtain ⟨r1, r2, r3, r4, r5⟩ := id R1
    obtain ⟨t1, t2, t3⟩ := r5 so
    have b := sS.2.1
    have ge := nuE_ge sS
    obtain ⟨M, hm, m1, m2, m3⟩ : ∃ M : Nat, nuE s = runE isDg (s 2) M (s 3 4) ∧ (M : Int) ≤ s 3 3 - s 3 4 ∧ M ≤ 4 ∧ (M = 4 ∨ (M : Int) = s 3 3 - s 3 4) := by
      refine ⟨if s 3 3 - s 3 4 < 4 then (s 3 3 - s 3 4).toNat else 4, rfl, ?_, ?_, ?_⟩ <;> split <;> omega
    have tO : nuT s 3 0 = 0 := by unfold nuT; rw [mmS_slot, if_neg (by omega), mmS_slot, if_neg (by omega)]; exact so
    have fz : ∀ w p, w ≠ 0 → flH w p (nuT s) 3 0 = 0 → ∀ x : Int, x = nuV s := fun w p hw e => by
      unfold flH at e
      rw [if_neg (fun q => q tO), mmS_slot, if_neg (by omega), mmS_slot, if_pos rfl] at e
      exact absurd e hw
    -- a fault, from any heap that has the same bytes
    have flt : ∀ (w p p' : Int) (b0 : mmH), w ≠ 0 → p' = p → nuF lo hi s = flH w p (nuT s) → b0 282 5 = 0 → b0 282 3 = s 3 3 → (∀ i, 0 ≤ i → i < 1600 → b0 283 i = s 2 i) → Fr MsK m b0 → ∀ x, qC tFM (d + 1) k_m_fail [282, w, p'] b0 (fun _ h3 => Q x h3) := by
      intro w p p' b0 hw hp e z5 z3 z4 bF x
      refine qC_intro (T_m_fail_0 _ _ _ _ _ _ _ ⟨fun _ => hy _ _ (fun q => ?_) ?_ ((bF.put (by unfold MsK; omega)).put (by unfold MsK; omega)), fun c => absurd z5 c⟩)
      · rw [e] at q
        exact fz w p hw q x
      · rw [e]
        unfold flH
        rw [if_neg (fun q => q tO)]
        refine ⟨?_, ?_, ?_, fun i i1 i2 => ?_, fun c => ?_⟩
        · rw [mmS_slot, if_neg (by omega), mmS_slot, if_pos rfl, mmS_slot, if_neg (by omega), mmS_slot, if_pos rfl]
        · rw [mmS_slot, if_pos rfl, mmS_slot, if_pos rfl, hp]
        · rw [mmS_slot, if_neg (by omega), mmS_slot, if_neg (by omega), mmS_slot, if_neg (by omega), mmS_slot, if_neg (by omega), z3]
          unfold nuT
          rw [mmS_slot, if_neg (by omega), mmS_slot, if_neg (by omega)]
        · rw [mmS_cell (by omega), mmS_cell (by omega), mmS_cell (by omega), mmS_cell (by omega), z4 i i1 i2]
          unfold nuT
          rw [mmS_cell (by omega), mmS_cell (by omega)]
        · rw [mmS_slot, if_neg (by omega), mmS_slot, if_pos rfl] at c
          exact absurd c hw
    have T3 : nuT s 3 3 = s 3 3 := by unfold nuT; rw [mmS_slot, if_neg (by omega), mmS_slot, if_neg (by omega)]
    have T4 : nuT s 3 4 = nuE s := by unfold nuT; rw [mmS_slot, if_neg (by omega), mmS_slot, if_pos rfl]
    have T2 : ∀ i, nuT s 2 i = s 2 i := fun i => by unfold nuT; rw [mmS_cell (by omega), mmS_cell (by omega)]
    have hT : hrV (nuT s) = if nuE s < s 3 3 then s 2 (nuE s) else -1 := by unfold hrV; rw [T3, T4, T2]
    have zer : ¬ isDg (hrV s) = true → nuE s = s 3 4 := fun q => by
      rw [hm]
      cases M with
      | zero => rfl
      | succ M =>
        unfold runE
        unfold hrV at q
        rw [if_pos (by omega)] at q
        rw [if_neg q]
    refine q_m_isDigit (fun x hx => ⟨fun c2 => ?_, fun c2 => ⟨fun c3 => ?_, fun c3 => ?_⟩⟩)
    · rw [t1]
      refine flt 1 (s 3 4) _ h1 (by omega) rfl ?_ (by rw [r1]; exact so) r3 r4 F1 0
      unfold nuF
      rw [if_pos (Or.inl (zer (hx.neg c2)))]
    · -- digits
      rw [t1, t2] at c3
      have hd0 := hx.pos c2
      have nz : nuE s ≠ s 3 4 := by
        intro q
        rw [hm] at q
        cases M with
        | zero =>
          unfold hrV at hd0
          rw [if_neg (by omega)] at hd0
          exact absurd hd0 (by decide)
        | succ M =>
          unfold hrV at hd0
          by_cases z : s 3 4 < s 3 3
          · rw [if_pos z] at hd0
            unfold runE at q
            rw [if_pos hd0] at q
            have := runE_ge (p := isDg) (B := s 2) M (s 3 4 + 1)
            omega
          · omega
      have n1 : ¬ (nuE s = s 3 4 ∨ s 3 4 = s 3 6) := fun q => by rcases q with q | q; exact nz q; exact c3 q
      -- behind the digits: a range
      have fin : ∀ (k : Nat) (b0 : mmH), s 3 4 + (k : Int) = nuE s → ¬ isDg (hrV (nuT s)) = true → RS P (mmS s 3 4 (s 3 4 + k)) b0 → Fr MsK m b0 → qB tFM (d + 1) k_m_number (h 0 0) (h 0 1) Q 6 [(3, 282), (1, lo), (1, hi), (1, s 3 4), (1, dgV (s 2) k (s 3 4) 0)] [] b0 := by
        intro k b0 hk hnd bR bF
        have ev : nuV s = dgV (s 2) k (s 3 4) 0 := by unfold nuV; rw [← hk, show (s 3 4 + (k : Int) - s 3 4).toNat = k by omega]
        have bt := bR.2.2.2.2 (by rw [mmS_slot, if_neg (by omega)]; exact so)
        have bt1 := bt.1
        rw [mmS_slot, if_pos rfl] at bt1
        have TR : RS P (nuT s) (mmS b0 282 4 (b0 282 2)) := by
          rw [bt1, hk]
          have := RS_we (a := nuE s) bR
          rw [hk] at this
          exact this
        refine T_m_number_6 _ _ _ _ _ _ _ _ _ ?_
        rw [← ev]
        refine q_m_isIn (fun y hyy => ⟨fun c4 => hy _ _ (fun _ => rfl) ?_ (bF.put (by unfold MsK; omega)), fun c4 => ?_⟩)
        · unfold nuF
          rw [if_neg n1, if_neg hnd, if_neg (by have := hyy.pos c4; omega)]
          exact TR
        · refine flt 2 (s 3 4) _ _ (by omega) rfl ?_ ?_ ?_ (fun i i1 i2 => ?_) (bF.put (by unfold MsK; omega)) _
          · unfold nuF
            rw [if_neg n1, if_neg hnd, if_pos (by have := hyy.neg (Decidable.of_not_not c4); omega)]
          · rw [TR.1]; exact tO
          · rw [TR.2.2.1]; exact T3
          · rw [TR.2.2.2.1 i i1 i2]; exact T2 i
      have key : ∀ (j k : Nat) (b0 : mmH), k + j = M → (∀ i, s 3 4 ≤ i → i < s 3 4 + (k : Int) → isDg (s 2 i) = true) → nuE s = runE isDg (s 2) j (s 3 4 + (k : Int)) → RS P (mmS s 3 4 (s 3 4 + k)) b0 → Fr MsK m b0 → qB tFM (d + 1) k_m_number (h 0 0) (h 0 1) Q 4 [(3, 282), (1, lo), (1, hi), (1, s 3 4), (1, dgV (s 2) k (s 3 4) 0)] [] b0 := by
        intro j
        induction j with
        | zero =>
          intro k b0 hk hd e bR bF
          unfold runE at e
          have bt := bR.2.2.2.2 (by rw [mmS_slot, if_neg (by omega)]; exact so)
          have bt1 := bt.1
          rw [mmS_slot, if_pos rfl] at bt1
          have b3 := bR.2.2.1
          rw [mmS_slot, if_neg (by omega)] at b3
          have b4 : ∀ i, 0 ≤ i → i < 1600 → b0 283 i = s 2 i := fun i i1 i2 => by rw [bR.2.2.2.1 i i1 i2, mmS_cell (by omega)]
          have b5 := bR.1
          rw [mmS_slot, if_neg (by omega)] at b5
          refine T_m_number_4 _ _ _ _ _ _ _ _ _ ⟨fun c4 => fin k b0 e.symm ?_ bR bF, fun c4 => ?_⟩
          · rw [hT, if_neg (by omega)]; decide
          · rw [mmD_iff, bt1, b4 _ (by omega) (by omega)]
            refine ⟨by omega, q_m_isDigit (fun y hyy => ⟨fun c5 => fin k b0 e.symm ?_ bR bF, fun c5 => ⟨fun c6 => absurd ?_ c6, fun c6 => ?_⟩⟩)⟩
            · rw [hT, if_pos (by omega), e]; exact hyy.neg c5
            · rw [bt1, mSub_ok (by omega) (by omega)]; omega
            · rw [bt1]
              refine flt 1 (nuE s) _ b0 (by omega) (by omega) ?_ (by rw [b5]; exact so) b3 b4 bF 0
              unfold nuF
              rw [if_neg n1, if_pos (by rw [hT, if_pos (by omega), e]; exact hyy.pos c5)]
        | succ j ih =>
          intro k b0 hk hd e bR bF
          have bt := bR.2.2.2.2 (by rw [mmS_slot, if_neg (by omega)]; exact so)
          have bt1 := bt.1
          rw [mmS_slot, if_pos rfl] at bt1
          have b3 := bR.2.2.1
          rw [mmS_slot, if_neg (by omega)] at b3
          have b4 : ∀ i, 0 ≤ i → i < 1600 → b0 283 i = s 2 i := fun i i1 i2 => by rw [bR.2.2.2.1 i i1 i2, mmS_cell (by omega)]
          refine T_m_number_4 _ _ _ _ _ _ _ _ _ ⟨fun c4 => absurd c4 (by omega), fun c4 => ?_⟩
          rw [mmD_iff, bt1, b4 _ (by omega) (by omega)]
          have e : nuE s = (if isDg (s 2 (s 3 4 + (k : Int))) = true then runE isDg (s 2) j (s 3 4 + (k : Int) + 1) else s 3 4 + (k : Int)) := e
          refine ⟨by omega, q_m_isDigit (fun y hyy => ⟨fun c5 => ?_, fun c5 => ⟨fun c6 => ?_, fun c6 => absurd ?_ c6⟩⟩)⟩
          · rw [if_neg (hyy.neg c5)] at e
            refine fin k b0 e.symm ?_ bR bF
            rw [hT, if_pos (by omega), e]; exact hyy.neg c5
          · have hdk := hyy.pos c5
            rw [if_pos hdk] at e
            have hd2 := hdk
            unfold isDg at hd2
            rw [decide_eq_true_iff] at hd2
            have vb := dgV_ok (B := s 2) (i := s 3 4) k hd
            have p10k := p10 ⟨k, by omega⟩
            simp only [] at p10k
            rw [mmD_iff, bt1, b4 _ (by omega) (by omega), mMul_ok (by omega) (by omega), mAdd_ok (b := s 2 (s 3 4 + (k : Int))) (by omega) (by omega), mSub_ok (by omega) (by omega), ← dgV_snoc, mAdd_ok (by omega) (by omega)]
            refine ⟨by omega, ?_⟩
            have R2 := RS_at (a := s 3 4 + (k : Int) + 1) bR
            rw [mmS_mmS] at R2
            rw [show s 3 4 + (k : Int) + 1 = s 3 4 + ((k + 1 : Nat) : Int) by omega] at R2 e ⊢
            refine ih (k + 1) _ (by omega) (fun i i1 i2 => ?_) e R2 (bF.put (by unfold MsK; omega))
            by_cases q : i = s 3 4 + (k : Int)
            · rw [q]; exact hdk
            · exact hd i i1 (by omega)
          · rw [bt1, mSub_ok (by omega) (by omega)]; omega
      have := key M 0 h1 (by omega) (fun i i1 i2 => absurd i2 (by omega)) (by rw [hm, show s 3 4 + ((0 : Nat) : Int) = s 3 4 by omega]) (by rw [show s 3 4 + ((0 : Nat) : Int) = s 3 4 by omega, mmS_id]; exact R1) F1
      rw [t1]
      exact this
    · rw [t1, t2] at c3
      rw [t1]
      refine flt 1 (s 3 4) _ h1 (by omega) rfl ?_ (by rw [r1]; exact so) r3 r4 F1 0
      unfold nuF
      rw [if_pos (Or.inr (Decidable.of_not_not c3))]
  · rw [hR.1] at c
    refine hy _ _ (fun q => ?_) (RS_gone hv hR c sk_nu (fr_nu (v := v))) hF
    exact absurd (by rw [← (sk_nu (g := g) (lo := lo) (hi := hi) c).1]; exact q) c
end RQ
