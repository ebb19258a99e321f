/-! ===== mm: leading over, the reference ===== -/
theorem mmCpy1 (h : mmH) (a k i : Int) : mmCpy h a 1 a 0 59 k i = if k = a ∧ 0 ≤ i ∧ i < 59 then h a (i + 1) else h k i := by
  unfold mmCpy
  by_cases q : k = a
  · rw [if_pos q]
    by_cases q2 : 0 ≤ i ∧ i < 59
    · rw [if_pos (by omega), if_pos ⟨q, q2⟩, show 1 + (i - 0) = i + 1 by omega]
    · rw [if_neg (by omega), if_neg (fun z => q2 z.2)]
  · rw [if_neg q, if_neg (fun z => q z.1)]
theorem shiftH_rd (g : mmH) : shiftH g 86 2 = 59 ∧ ∀ k, 0 ≤ k → k < 59 → shiftH g 92 k = g 92 (k + 1) ∧ shiftH g 93 k = g 93 (k + 1) ∧ shiftH g 94 k = g 94 (k + 1) := by
  unfold shiftH
  refine ⟨by rw [mmS_slot, if_pos rfl], fun k k1 k2 => ⟨?_, ?_, ?_⟩⟩
  · rw [mmS_cell (by omega), mmCpy1, if_neg (by omega), mmCpy1, if_neg (by omega), mmCpy1, if_pos (by omega)]
  · rw [mmS_cell (by omega), mmCpy1, if_neg (by omega), mmCpy1, if_pos (by omega), mmCpy1, if_neg (by omega)]
  · rw [mmS_cell (by omega), mmCpy1, if_pos (by omega), mmCpy1, if_neg (by omega), mmCpy1, if_neg (by omega)]
theorem leadA_rd (l p : Int) (g : mmH) (k : Int) : leadA l p g 86 2 = g 86 2 + 1 ∧ leadA l p g 92 k = (if k = g 86 2 then g 86 0 else g 92 k) ∧ leadA l p g 93 k = (if k = g 86 2 then l else g 93 k) ∧ leadA l p g 94 k = (if k = g 86 2 then p else g 94 k) := by
  unfold leadA
  refine ⟨?_, ?_, ?_, ?_⟩
  · rw [mmS_slot, if_pos rfl]
  · rw [mmS_cell (by omega), mmS_cell (by omega), mmS_cell (by omega), mmS_slot]
  · rw [mmS_cell (by omega), mmS_cell (by omega), mmS_slot, mmS_cell (by omega)]
  · rw [mmS_cell (by omega), mmS_slot, mmS_cell (by omega), mmS_cell (by omega)]
def LdK (k i : Int) : Prop := (92 ≤ k ∧ k ≤ 94) ∨ (k = 86 ∧ i = 2)
theorem leadA_frL (l p : Int) (g : mmH) : Fr LdK g (leadA l p g) := by
  unfold leadA
  exact (((Fr.rf.put (by unfold LdK; omega)).put (by unfold LdK; omega)).put (by unfold LdK; omega)).put (by unfold LdK; omega)
theorem shiftH_frL (g : mmH) : Fr LdK g (shiftH g) := fun k i q => by
  unfold LdK at q
  unfold shiftH
  by_cases q1 : k = 86
  · subst q1
    rw [mmS_slot, if_neg (by omega), mmCpy1, if_neg (by omega), mmCpy1, if_neg (by omega), mmCpy1, if_neg (by omega)]
  · rw [mmS_cell q1, mmCpy1, if_neg (by omega), mmCpy1, if_neg (by omega), mmCpy1, if_neg (by omega)]
section WL
variable {d : Nat} {u : Int} {g h : mmH} {Q : Int → mmH → Prop}
theorem Nw_led {g2 h2 : mmH} (hu : u = 5 ∨ u = 46) (hg : Fr LdK g g2) (hh : ∀ i, i < 29 → h2 329 i = h 329 i) (n : g u 0 ≤ 5 ∧ g u 1 ≤ 10 ∧ g u 3 ≤ 6) (hc : h2 329 29 = g2 86 2 ∧ 0 ≤ g2 86 2 ∧ g2 86 2 ≤ 60) (he : ∀ k, 0 ≤ k → k < g2 86 2 → h2 329 (30 + 3 * k) = g2 92 k ∧ h2 329 (30 + 3 * k + 1) = g2 93 k ∧ h2 329 (30 + 3 * k + 2) = g2 94 k) (hN : Nw 86 329 0 u g h) : Nw 86 329 0 u g2 h2 := by
  obtain ⟨a1, a2, a3, a4, a5, a6, a7⟩ := hN
  simp only [Int.reduceAdd, Int.zero_add] at a1 a2 a3 a4 a5 a6 a7
  have hg' : ∀ k i, ¬ ((92 ≤ k ∧ k ≤ 94) ∨ (k = 86 ∧ i = 2)) → g2 k i = g k i := hg
  unfold Nw
  simp only [Int.reduceAdd, Int.zero_add]
  rw [hg' u 0 (by omega), hg' u 1 (by omega), hg' u 3 (by omega), hg' 86 0 (by omega), hg' 86 1 (by omega), hh 0 (by omega), hh 1 (by omega)]
  refine ⟨a1, a2, hc, fun l l1 l2 => ?_, fun p p1 p2 => ?_, fun q q1 q2 => ?_, he⟩
  · rw [hg' 87 _ (by omega), hh _ (by omega)]; exact a4 l l1 l2
  · rw [hg' 88 _ (by omega), hg' 89 _ (by omega), hh _ (by omega), hh _ (by omega)]; exact a5 p p1 p2
  · rw [hg' 90 _ (by omega), hh _ (by omega)]; exact a6 q q1 q2
theorem q_m_leads {l p : Int} (hu : u = 5 ∨ u = 46) (n : g u 0 ≤ 5 ∧ g u 1 ≤ 10 ∧ g u 3 ≤ 6) (hN : Nw 86 329 0 u g h) (hy : ∀ h', Fr (fun k i => k = 329 ∧ 29 ≤ i) h h' → Nw 86 329 0 u (leadH l p g) h' → Q 0 h') : qC tFM (d + 1) k_m_leads [282, l, p] h Q := by
  obtain ⟨⟨e0, -⟩, -, ⟨e29, z1, z2⟩, -, -, -, eL⟩ := id hN
  simp only [Int.reduceAdd, Int.zero_add] at e0 e29 eL
  have b4 : ∀ (g2 h1 : mmH) (w : mmV), Fr LdK g g2 → leadH l p g = leadA l p g2 → Fr (fun k i => k = 329 ∧ 29 ≤ i) h h1 → (0 ≤ g2 86 2 ∧ g2 86 2 < 60) → h1 329 29 = g2 86 2 + 1 → (∀ k, 0 ≤ k → k < g2 86 2 → h1 329 (30 + 3 * k) = g2 92 k ∧ h1 329 (30 + 3 * k + 1) = g2 93 k ∧ h1 329 (30 + 3 * k + 2) = g2 94 k) → qB tFM d k_m_leads (h 0 0) (h 0 1) Q 4 [(3, 282), (1, l), (1, p), w] [] h1 := by
    intro g2 h1 w fg hgl fh hn h29 hk
    have ix : mSub (mAdd 30 (mMul 3 (h1 329 29))) 3 = 30 + 3 * g2 86 2 := by
      rw [h29, mMul_ok (by omega) (by omega), mAdd_ok (by omega) (by omega), mSub_ok (by omega) (by omega)]; omega
    refine T_m_leads_4 _ _ _ _ _ _ _ _ ?_
    rw [ix, mAdd_ok (b := 1) (by omega) (by omega), mAdd_ok (b := 2) (by omega) (by omega)]
    refine mmD_of (by omega) (mmD_of (by omega) (mmD_of (by omega) (hy _ (((fh.put ⟨rfl, by omega⟩).put ⟨rfl, by omega⟩).put ⟨rfl, by omega⟩) ?_)))
    rw [hgl]
    have r0 := leadA_rd l p g2
    refine Nw_led hu (fg.tr (leadA_frL l p g2)) (fun i i1 => ?_) n ⟨?_, ?_, ?_⟩ (fun k k1 k2 => ?_) hN
    · rw [mmS_slot, if_neg (by omega), mmS_slot, if_neg (by omega), mmS_slot, if_neg (by omega)]
      exact fh 329 i (by omega)
    · rw [mmS_slot, if_neg (by omega), mmS_slot, if_neg (by omega), mmS_slot, if_neg (by omega), h29, (r0 0).1]
    · rw [(r0 0).1]; omega
    · rw [(r0 0).1]; omega
    · rw [(r0 0).1] at k2
      obtain ⟨-, r2, r3, r4⟩ := r0 k
      rw [r2, r3, r4]
      by_cases q : k = g2 86 2
      · rw [if_pos q, if_pos q, if_pos q]
        refine ⟨?_, ?_, ?_⟩
        · rw [mmS_slot, if_neg (by omega), mmS_slot, if_neg (by omega), mmS_slot, if_pos (by omega), fh 329 0 (by omega), e0]
          exact (fg 86 0 (by unfold LdK; omega)).symm
        · rw [mmS_slot, if_neg (by omega), mmS_slot, if_pos (by omega)]
        · rw [mmS_slot, if_pos (by omega)]
      · rw [if_neg q, if_neg q, if_neg q]
        have := hk k k1 (by omega)
        rw [mmS_slot, if_neg (by omega), mmS_slot, if_neg (by omega), mmS_slot, if_neg (by omega), mmS_slot, if_neg (by omega), mmS_slot, if_neg (by omega), mmS_slot, if_neg (by omega), mmS_slot, if_neg (by omega), mmS_slot, if_neg (by omega), mmS_slot, if_neg (by omega)]
        exact this
  refine qC_intro (T_m_leads_0 _ _ _ _ _ _ _ ⟨fun c => ?_, fun c => ?_⟩)
  · rw [mAdd_ok (by omega) (by omega)]
    refine b4 g _ _ Fr.rf ?_ (Fr.rf.put ⟨rfl, by omega⟩) ⟨z1, by omega⟩ ?_ (fun k k1 k2 => ?_)
    · unfold leadH; rw [if_pos (by omega)]
    · rw [mmS_slot, if_pos rfl, e29]
    · rw [mmS_slot, if_neg (by omega), mmS_slot, if_neg (by omega), mmS_slot, if_neg (by omega)]
      exact eL k k1 k2
  · have key : ∀ (j : Nat) (i : Int) (h1 : mmH), i + j = 207 → 30 ≤ i → Fr (fun k i => k = 329 ∧ 30 ≤ i) h h1 → (∀ k, 30 ≤ k → k < i → h1 329 k = h 329 (k + 3)) → (∀ k, i ≤ k → h1 329 k = h 329 k) → qB tFM d k_m_leads (h 0 0) (h 0 1) Q 1 [(3, 282), (1, l), (1, p), (1, i)] [] h1 := by
      intro j
      induction j with
      | zero =>
        intro i h1 hi i0 f1 f2 f3
        obtain ⟨s1, s2⟩ := shiftH_rd g
        refine T_m_leads_1 _ _ _ _ _ _ _ _ ⟨fun _ => b4 (shiftH g) h1 _ (shiftH_frL g) ?_ (f1.mono (fun k i q => ⟨q.1, by omega⟩)) (by omega) ?_ (fun k k1 k2 => ?_), fun c => absurd (by omega) c⟩
        · unfold leadH; rw [if_neg (by omega)]
        · rw [f1 329 29 (by omega), s1]; omega
        · rw [s1] at k2
          obtain ⟨t1, t2, t3⟩ := s2 k k1 k2
          obtain ⟨u1, u2, u3⟩ := eL (k + 1) (by omega) (by omega)
          rw [f2 _ (by omega) (by omega), f2 _ (by omega) (by omega), f2 _ (by omega) (by omega), t1, t2, t3, ← u1, ← u2, ← u3, show 30 + 3 * k + 3 = 30 + 3 * (k + 1) by omega, show 30 + 3 * k + 1 + 3 = 30 + 3 * (k + 1) + 1 by omega, show 30 + 3 * k + 2 + 3 = 30 + 3 * (k + 1) + 2 by omega]
          exact ⟨rfl, rfl, rfl⟩
      | succ j ih =>
        intro i h1 hi i0 f1 f2 f3
        refine T_m_leads_1 _ _ _ _ _ _ _ _ ⟨fun c => absurd c (by omega), fun _ => ?_⟩
        rw [mAdd_ok (b := 3) (by omega) (by omega), mAdd_ok (b := 1) (by omega) (by omega)]
        refine mmD_of (by omega) (mmD_of (by omega) (ih (i + 1) _ (by omega) (by omega) (f1.put ⟨rfl, i0⟩) (fun k k1 k2 => ?_) (fun k k1 => ?_)))
        · rw [mmS_slot]
          by_cases q : k = i
          · rw [if_pos q, f3 _ (by omega), q]
          · rw [if_neg q]; exact f2 k k1 (by omega)
        · rw [mmS_slot, if_neg (by omega)]; exact f3 k (by omega)
    exact key 177 30 h (by omega) (by omega) Fr.rf (fun k k1 k2 => absurd k2 (by omega)) (fun _ _ => rfl)
/-! ===== mm: walking, the reference ===== -/
theorem Nw_pay {o v : Int} (hu : u = 5 ∨ u = 46) (n : g u 0 ≤ 5 ∧ g u 1 ≤ 10 ∧ g u 3 ≤ 6) (ho : 0 ≤ o ∧ o < 5) (hN : Nw 86 329 0 u g h) : Nw 86 329 0 u (mmS g 90 o v) (mmS h 329 (24 + o) v) := by
  obtain ⟨a1, a2, a3, a4, a5, a6, a7⟩ := hN
  simp only [Int.reduceAdd, Int.zero_add] at a1 a2 a3 a4 a5 a6 a7
  have hg : ∀ k i, k ≠ 90 → mmS g 90 o v k i = g k i := fun k i q => mmS_cell q
  have hh : ∀ i, i ≠ 24 + o → mmS h 329 (24 + o) v 329 i = h 329 i := fun i q => by rw [mmS_slot, if_neg q]
  unfold Nw
  simp only [Int.reduceAdd, Int.zero_add]
  rw [hg u 0 (by omega), hg u 1 (by omega), hg u 3 (by omega), hg 86 0 (by omega), hg 86 1 (by omega), hg 86 2 (by omega), hh 0 (by omega), hh 1 (by omega), hh 29 (by omega)]
  refine ⟨a1, a2, a3, fun l l1 l2 => ?_, fun p p1 p2 => ?_, fun q q1 q2 => ?_, fun k k1 k2 => ?_⟩
  · rw [hg 87 _ (by omega), hh _ (by omega)]; exact a4 l l1 l2
  · rw [hg 88 _ (by omega), hg 89 _ (by omega), hh _ (by omega), hh _ (by omega)]; exact a5 p p1 p2
  · rw [mmS_slot, mmS_slot]
    by_cases e : q = o
    · rw [if_pos e, if_pos (by omega)]
    · rw [if_neg e, if_neg (by omega)]; exact a6 q q1 q2
  · rw [hg 92 _ (by omega), hg 93 _ (by omega), hg 94 _ (by omega), hh _ (by omega), hh _ (by omega), hh _ (by omega)]; exact a7 k k1 k2
theorem Nw_turn {p : Int} (hu : u = 5 ∨ u = 46) (n : g u 0 ≤ 5 ∧ g u 1 ≤ 10 ∧ g u 3 ≤ 6) (p1 : 0 ≤ p) (p2 : p < g u 3) (hN : Nw 86 329 0 u g h) : Nw 86 329 0 u (turnH p g) (mmS (mmS h 329 (12 + 2 * p + 1) (g 88 p)) 329 (12 + 2 * p) (g 89 p)) := by
  obtain ⟨a1, a2, a3, a4, a5, a6, a7⟩ := hN
  simp only [Int.reduceAdd, Int.zero_add] at a1 a2 a3 a4 a5 a6 a7
  have hg : ∀ k i, k ≠ 88 → k ≠ 89 → turnH p g k i = g k i := fun k i q q2 => by unfold turnH; rw [mmS_cell q, mmS_cell q2]
  have g8 : ∀ i, turnH p g 88 i = if i = p then g 89 p else g 88 i := fun i => by unfold turnH; rw [mmS_slot, mmS_cell (by omega)]
  have g9 : ∀ i, turnH p g 89 i = if i = p then g 88 p else g 89 i := fun i => by unfold turnH; rw [mmS_cell (by omega), mmS_slot]
  have hh : ∀ i, i ≠ 12 + 2 * p → i ≠ 12 + 2 * p + 1 → mmS (mmS h 329 (12 + 2 * p + 1) (g 88 p)) 329 (12 + 2 * p) (g 89 p) 329 i = h 329 i := fun i q q2 => by rw [mmS_slot, if_neg q, mmS_slot, if_neg q2]
  unfold Nw
  simp only [Int.reduceAdd, Int.zero_add]
  rw [hg u 0 (by omega) (by omega), hg u 1 (by omega) (by omega), hg u 3 (by omega) (by omega), hg 86 0 (by omega) (by omega), hg 86 1 (by omega) (by omega), hg 86 2 (by omega) (by omega), hh 0 (by omega) (by omega), hh 1 (by omega) (by omega), hh 29 (by omega) (by omega)]
  refine ⟨a1, a2, a3, fun l l1 l2 => ?_, fun q q1 q2 => ?_, fun q q1 q2 => ?_, fun k k1 k2 => ?_⟩
  · rw [hg 87 _ (by omega) (by omega), hh _ (by omega) (by omega)]; exact a4 l l1 l2
  · rw [g8, g9]
    by_cases e : q = p
    · have := a5 p p1 p2
      rw [if_pos e, if_pos e, mmS_slot, if_pos (by omega), mmS_slot, if_neg (by omega), mmS_slot, if_pos (by omega)]
      exact ⟨rfl, rfl, this.2.2.2.1, this.2.2.1, fun z => this.2.2.2.2 z.symm⟩
    · rw [if_neg e, if_neg e, hh _ (by omega) (by omega), hh _ (by omega) (by omega)]
      exact a5 q q1 q2
  · rw [hg 90 _ (by omega) (by omega), hh _ (by omega) (by omega)]; exact a6 q q1 q2
  · rw [hg 92 _ (by omega) (by omega), hg 93 _ (by omega) (by omega), hg 94 _ (by omega) (by omega), hh _ (by omega) (by omega), hh _ (by omega) (by omega), hh _ (by omega) (by omega)]; exact a7 k k1 k2
end WL
section PP
variable {u p : Int} {g h : mmH}
theorem pP_ok (hN : Nw 86 329 0 u g h) (n1 : 0 ≤ g u 1 ∧ g u 1 ≤ 10) (p1 : 0 ≤ p) (p2 : p < g u 3) (hf : dP u g p (g 88 p) ≠ wFar) (k : Nat) (hk : (k : Int) ≤ (dP u g p (g 88 p)).2) : 0 ≤ pP u g p k ∧ pP u g p k < g u 1 ∧ dP u g p (pP u g p k) ≠ wFar ∧ (dP u g p (pP u g p k)).2 + k = (dP u g p (g 88 p)).2 := by
  obtain ⟨hs, hg, -, -, -⟩ := Nw_at hN p1 p2
  exact pth_ok n1.2 (wOk_P u g p) hg.1 hg.2 hs.1 hs.2 hf k hk
theorem pP_end (hN : Nw 86 329 0 u g h) (n1 : 0 ≤ g u 1 ∧ g u 1 ≤ 10) (p1 : 0 ≤ p) (p2 : p < g u 3) (hf : dP u g p (g 88 p) ≠ wFar) (k : Nat) (hk : (k : Int) ≤ (dP u g p (g 88 p)).2) : pP u g p k = g 89 p ↔ (k : Int) = (dP u g p (g 88 p)).2 := by
  obtain ⟨hs, hg, -, -, -⟩ := Nw_at hN p1 p2
  exact pth_last n1.2 (wOk_P u g p) hg.1 hg.2 hs.1 hs.2 hf (k := k) hk
theorem pP_step (hN : Nw 86 329 0 u g h) (n1 : 0 ≤ g u 1 ∧ g u 1 ≤ 10) (p1 : 0 ≤ p) (p2 : p < g u 3) (hf : dP u g p (g 88 p) ≠ wFar) (k : Nat) (hk : (k : Int) < (dP u g p (g 88 p)).2) : eP u g p (pP u g p k) (pP u g p (k + 1)) = true := by
  have a := pP_ok hN n1 p1 p2 hf k (by omega)
  have hn : pP u g p k ≠ g 89 p := fun q => by have := (pP_end hN n1 p1 p2 hf k (by omega)).mp q; omega
  obtain ⟨hs, hg, -, -, -⟩ := Nw_at hN p1 p2
  exact (nx_ok n1.2 (wOk_P u g p) hg.1 hg.2 a.1 a.2.1 hn a.2.2.1).2.2.1
theorem pP_inj (hN : Nw 86 329 0 u g h) (n1 : 0 ≤ g u 1 ∧ g u 1 ≤ 10) (p1 : 0 ≤ p) (p2 : p < g u 3) (hf : dP u g p (g 88 p) ≠ wFar) {i j : Nat} (hij : i < j) (hk : (j : Int) ≤ (dP u g p (g 88 p)).2) : pP u g p i ≠ pP u g p j := fun q => by
  have a := (pP_ok hN n1 p1 p2 hf i (by omega)).2.2.2
  have b := (pP_ok hN n1 p1 p2 hf j (by omega)).2.2.2
  rw [q] at a
  omega
theorem pP_steps (hN : Nw 86 329 0 u g h) (n1 : 0 ≤ g u 1 ∧ g u 1 ≤ 10) (p1 : 0 ≤ p) (p2 : p < g u 3) (hf : dP u g p (g 88 p) ≠ wFar) : 0 ≤ (dP u g p (g 88 p)).1 ∧ (dP u g p (g 88 p)).1 ≤ 8991 ∧ 0 ≤ (dP u g p (g 88 p)).2 ∧ (dP u g p (g 88 p)).2 < g u 1 := by
  obtain ⟨hs, hg, -, -, -⟩ := Nw_at hN p1 p2
  exact wInv_fin (dis_inv n1.2 (wOk_P u g p) hg.1 hg.2) n1.2 hs.1 hs.2 hf
theorem stepH_87 (u p l t : Int) (h : mmH) (i : Int) : stepH u p l t h 87 i = if brkO u p l h = true ∧ i = l then h 87 l - 1 else h 87 i := by
  unfold stepH
  by_cases q : brkO u p l h = true
  · rw [if_pos q, leadH_87, mmS_slot]
    unfold payH
    rw [mmS_cell (by omega)]
    by_cases e : i = l
    · rw [if_pos e, if_pos ⟨q, e⟩]
    · rw [if_neg e, if_neg (fun z => e z.2)]
  · rw [if_neg q, if_neg (fun z => q z.1)]
    unfold payH
    rw [mmS_cell (by omega)]
theorem goN_87 {w : Int → Int} {path : Nat → Int} {l : Int} : ∀ k : Nat, (∀ j, j < k → path j ≠ l) → goN u p w path g k 87 l = g 87 l
  | 0, _ => rfl
  | k + 1, hk => by
    show stepH u p (path k) (w (path k)) (goN u p w path g k) 87 l = g 87 l
    rw [stepH_87, if_neg (fun z => hk k (by omega) z.2.symm)]
    exact goN_87 k (fun j j1 => hk j (by omega))
end PP
/-- one goes his way, if he has one: what he breaks, what is then -/
def walkP (u : Int) (g : mmH) (p x : Int) (g' : mmH) : Prop := (dP u g p (g 88 p) = wFar ∧ x = 0 ∧ Fr (Sw3 u) g g') ∨
  (dP u g p (g 88 p) ≠ wFar ∧ ∃ (g1 : mmH) (w : Int → Int) (path : Nat → Int) (n : Nat), Fr (Sw3 u) g g1 ∧ (∀ l, 0 ≤ l → l < g u 1 → w l = wP u g p l) ∧ (∀ k : Nat, k < n → path k = pP u g p (k + 1)) ∧ (n : Int) = (dP u g p (g 88 p)).2 ∧ x = cntN u p w path g1 n ∧ g' = turnH p (goN u p w path g1 n))
theorem Sw3_SnC {u k i : Int} (hu : u = 5 ∨ u = 46) (q : Sw3 u k i) : SnC k i := by
  unfold Sw3 Sct at q
  unfold SnC
  omega
theorem Smw_SnM {k i : Int} (q : Smw k i) : SnM k i := by
  unfold Smw Smc Smt Spm at q
  unfold SnM ScM
  omega
section WM
variable {d : Nat} {u : Int} {g g' h : mmH} {Q : Int → mmH → Prop}
theorem Nw_Sw3 {h' : mmH} (hu : u = 5 ∨ u = 46) (hF : Fr (Sw3 u) g g') (hG : Fr Smw h h') (hN : Nw 86 329 0 u g h) : Nw 86 329 0 u g' h' := by
  have f : ∀ k i, ¬ Sw3 u k i → g' k i = g k i := hF
  refine Nw_eq (f u 0 (by unfold Sw3 Sct; omega)) (f u 1 (by unfold Sw3 Sct; omega)) (f u 3 (by unfold Sw3 Sct; omega)) (funext fun i => hG 329 i (by unfold Smw Smc Smt Spm; omega)) (fun k k1 k2 => funext fun i => f k i (by unfold Sw3 Sct; omega)) hN
theorem Cy_Sw3 {h' : mmH} (hu : u = 5 ∨ u = 46) (hF : Fr (Sw3 u) g g') (hG : Fr Smw h h') (hC : Cy u g h) : Cy u g' h' :=
  Cy_now hu (hF.mono (fun _ _ q => Sw3_SnC hu q)) (hG.mono (fun _ _ q => Smw_SnM q)) (Nw_Sw3 hu hF hG hC.2) hC
theorem turnH_fr (p : Int) (g : mmH) : Fr (fun k _ => k = 88 ∨ k = 89) g (turnH p g) := by
  unfold turnH
  exact (Fr.rf.put (Or.inr rfl)).put (Or.inl rfl)
theorem q_m_walks {p x : Int} (hu : u = 5 ∨ u = 46) (hC : Cy u g h) (p1 : 0 ≤ p) (p2 : p < g u 3) (hp : walkP u g p x g') (hy : ∀ h', Fr (fun k _ => 282 ≤ k) h h' → Cy u g' h' → Q x h') : qC tFM (d + 7) k_m_walks [282, p] h Q := by
  have hT := hC.1.1
  have hN := hC.2
  obtain ⟨⟨n0, n0'⟩, n1, ⟨n3, n3'⟩, -⟩ := hT.1.2.1
  have n4 := hT.1.2.2.1
  have n5 := hT.1.2.2.2.2.2
  obtain ⟨hs, hg, hne, -, -⟩ := Nw_at hN p1 p2
  refine qC_intro (T_m_walks_0 _ _ _ _ _ _ (q_m_hasWay hu hT hN p1 p2 (fun h1 f1 hW y hyy => ⟨fun c => q_m_placeOf p1 (by omega) ?_, fun c => ?_⟩)))
  · have hf := hyy.pos c
    rcases hp with ⟨q, -⟩ | ⟨-, g1, w, path, n, fg, hw, hpt, hn, rfl, rfl⟩
    · exact absurd q hf
    have hst := pP_steps hN n1 p1 p2 hf
    have gf : ∀ k i, ¬ Sw3 u k i → g1 k i = g k i := fg
    have N1 : Nw 86 329 0 u g1 h1 := Nw_Sw3 hu fg f1 hN
    have hT1 : Tn u 1 g h1 := Tn_Smw f1 hT
    have gn0 : g1 u 0 = g u 0 := gf u 0 (by unfold Sw3 Sct; omega)
    have gn1 : g1 u 1 = g u 1 := gf u 1 (by unfold Sw3 Sct; omega)
    have gn3 : g1 u 3 = g u 3 := gf u 3 (by unfold Sw3 Sct; omega)
    have key : ∀ (j k : Nat) (H : mmH), (k : Int) + j = n → Fr (fun k _ => k = 329) h1 H → Nw 86 329 0 u (goN u p w path g1 k) H → qB tFM (d + 6) k_m_walks (h 0 0) (h 0 1) Q 2 [(3, 282), (1, p), (1, cntN u p w path g1 k), (1, pP u g p k)] [] H := by
      intro j
      induction j with
      | zero =>
        intro k H hk fH NH
        have ek : k = n := by omega
        subst ek
        have fG := goN_fr u p w path g1 k
        obtain ⟨-, -, -, hp2, hp3⟩ := Nw_at NH p1 (by rw [fG u 3 (by unfold SwK; omega), gn3]; exact p2)
        have e9 : goN u p w path g1 k 89 p = g 89 p := by rw [fG 89 p (by unfold SwK; omega), gf 89 p (by unfold Sw3 Sct; omega)]
        refine T_m_walks_2 _ _ _ _ _ _ _ _ (q_m_goalOf p1 (by omega) ?_)
        have hl := (pP_end hN n1 p1 p2 hf k (by omega)).mpr hn
        rw [hp3, e9, hl]
        refine ⟨fun _ => q_m_placeOf p1 (by omega) ?_, fun c => absurd rfl c⟩
        rw [hp2, mMul_ok (by omega) (by omega), mAdd_ok (a := 12) (by omega) (by omega), mAdd_ok (by omega) (by omega)]
        refine mmD_of (by omega) (mmD_of (by omega) ?_)
        have NT := Nw_turn (p := p) hu (by rw [fG u 0 (by unfold SwK; omega), fG u 1 (by unfold SwK; omega), fG u 3 (by unfold SwK; omega), gn0, gn1, gn3]; exact ⟨n0', n1.2, n3'⟩) p1 (by rw [fG u 3 (by unfold SwK; omega), gn3]; exact p2) NH
        rw [e9] at NT
        refine hy _ (((f1.mono (fun k i q => ?_)).tr (fH.mono (fun k i q => by omega))).put (by omega) |>.put (by omega)) (Cy_now hu (((fg.mono (fun _ _ q => Sw3_SnC hu q)).tr (fG.mono (fun k i q => by unfold SwK at q; unfold SnC; omega))).tr ((turnH_fr p _).mono (fun k i q => by unfold SnC; omega))) (((f1.mono (fun _ _ q => Smw_SnM q)).tr (fH.mono (fun k i q => Or.inl q))).put (Or.inl rfl) |>.put (Or.inl rfl)) NT hC)
        unfold Smw Smc Smt Spm at q
        omega
      | succ j ih =>
        intro k H hk fH NH
        have fG := goN_fr u p w path g1 k
        obtain ⟨-, -, -, -, hp3⟩ := Nw_at NH p1 (by rw [fG u 3 (by unfold SwK; omega), gn3]; exact p2)
        have e9 : goN u p w path g1 k 89 p = g 89 p := by rw [fG 89 p (by unfold SwK; omega), gf 89 p (by unfold Sw3 Sct; omega)]
        obtain ⟨q1, q2, q3, -⟩ := pP_ok hN n1 p1 p2 hf k (by omega)
        obtain ⟨l1, l2, -, -⟩ := pP_ok hN n1 p1 p2 hf (k + 1) (by omega)
        have hst1 := pP_step hN n1 p1 p2 hf k (by omega)
        have hnl : pP u g p k ≠ g 89 p := fun q => by have := (pP_end hN n1 p1 p2 hf k (by omega)).mp q; omega
        have hpk := hpt k (by omega)
        have hop : 0 < g 87 (path k) := by rw [hpk]; exact (eP_iff.mp hst1).2.1
        have l1' : 0 ≤ path k := by rw [hpk]; exact l1
        have l2' : path k < g u 1 := by rw [hpk]; exact l2
        have e87 : goN u p w path g1 k 87 (path k) = g 87 (path k) := by
          rw [goN_87 k (fun i i1 => ?_), gf 87 _ (by unfold Sw3 Sct; omega)]
          rw [hpt i (by omega), hpk]
          exact pP_inj hN n1 p1 p2 hf (by omega) (by omega)
        generalize hG : goN u p w path g1 k = G at fG NH hp3 e9 e87 ⊢
        have a1 : G u 0 = g u 0 := by rw [fG u 0 (by unfold SwK; omega), gn0]
        have a2 : G u 1 = g u 1 := by rw [fG u 1 (by unfold SwK; omega), gn1]
        have a3 : G u 3 = g u 3 := by rw [fG u 3 (by unfold SwK; omega), gn3]
        have a4 : G u 4 = g u 4 := by rw [fG u 4 (by unfold SwK; omega), gf u 4 (by unfold Sw3 Sct; omega)]
        have a5 : G (u + 5 + path k) 0 = g (u + 5 + path k) 0 := by rw [fG _ 0 (by unfold SwK; omega), gf _ 0 (by unfold Sw3 Sct; omega)]
        have a6 : G (u + 16 + p) 0 = g (u + 16 + p) 0 := by rw [fG _ 0 (by unfold SwK; omega), gf _ 0 (by unfold Sw3 Sct; omega)]
        have hTH : Tn u 1 g H := Tn_frM (fun k i q => fH k i (by unfold TnM at q; omega)) hT1
        have hTl := (hT.2.1 (path k) l1' l2').1
        have hTlH := (hTH.2.1 (path k) l1' l2').1.1
        simp only [Int.reduceMul, Int.mul_one] at hTlH
        have hn1 := hN.2.1
        have hsH : H 329 1 = g 86 1 ∧ 0 ≤ g 86 1 ∧ g 86 1 ≤ 9 := by
          have := NH.2.1
          simp only [Int.reduceAdd, Int.zero_add] at this
          rw [fG 86 1 (by unfold SwK; omega), gf 86 1 (by unfold Sw3 Sct; omega)] at this
          exact this
        have hWH : wayM u g p H := ⟨fun x x1 x2 => by rw [fH 332 x (by omega), fH 333 x (by omega)]; exact hW.1 x x1 x2, fun l l1 l2 => by rw [fH 331 l (by omega), fH 330 l (by omega)]; exact hW.2 l l1 l2⟩
        refine T_m_walks_2 _ _ _ _ _ _ _ _ (q_m_goalOf p1 (by omega) ?_)
        rw [hp3, e9]
        refine ⟨fun c => absurd c hnl, fun _ => q_m_nextOf hTH hsH hg p1 p2 hWH q1 q2 hnl q3 ?_⟩
        have e : nP u g p (pP u g p k) = path k := by rw [hpk]; rfl
        rw [e]
        refine q_m_ownerOf l1' (by omega) ?_
        have hpu := NH.2.2.2.2.2.1 (g (u + 5 + path k) 0) hTl.2.1 (by omega)
        simp only [Int.reduceAdd, Int.zero_add] at hpu
        rw [hTlH, mAdd_ok (a := 24) (by omega) (by omega), hpu, (hWH.2 _ l1' l2').1, ← hw _ l1' l2']
        have NP := Nw_pay (o := g (u + 5 + path k) 0) (v := mAdd (G 90 (g (u + 5 + path k) 0)) (w (path k))) hu (by omega) (by omega) NH
        have ep : mmS G 90 (g (u + 5 + path k) 0) (mAdd (G 90 (g (u + 5 + path k) 0)) (w (path k))) = payH u (path k) (w (path k)) G := by unfold payH; rw [a5]
        rw [ep] at NP
        have fH2 : Fr (fun k _ => k = 329) h1 (mmS H 329 (24 + g (u + 5 + path k) 0) (mAdd (G 90 (g (u + 5 + path k) 0)) (w (path k)))) := fH.put rfl
        generalize hH2 : mmS H 329 (24 + g (u + 5 + path k) 0) (mAdd (G 90 (g (u + 5 + path k) 0)) (w (path k))) = H2 at NP fH2 ⊢
        have hT2 : Tn u 1 g H2 := Tn_frM (fun k i q => fH2 k i (by unfold TnM at q; omega)) hT1
        have hti := NP.2.2.2.1 (path k) l1' (by unfold payH; rw [mmS_cell (by omega), a2]; exact l2')
        have py : ∀ k' i, k' ≠ 90 → payH u (path k) (w (path k)) G k' i = G k' i := fun k' i q => by unfold payH; rw [mmS_cell q]
        simp only [Int.reduceAdd, Int.zero_add] at hti
        rw [py 87 _ (by omega), e87] at hti
        have f18 : H2 318 1 = g u 4 := by
          rcases hT2.1.2.2.2.2.2 with q | q
          · exact q
          · omega
        have f17 : H2 317 (36 + 6 * p + 0) = g (u + 16 + p) 0 := by
          have := (hT2.2.2.1 p p1 p2).1 0 (by omega) (by omega)
          simp only [Int.mul_one] at this
          exact this
        refine mmD_of (by omega) (mmD_of (by omega) (mmD_of (by omega) (q_m_breaks p1 (by omega) l1' (by omega) (by omega) (by omega) (by omega) (by omega) (fun z hz => ?_))))
        rw [f18, hti.1, f17] at hz
        have hbk : brkO u p (path k) G = true ↔ g u 4 * g 87 (path k) < g (u + 16 + p) 0 := by
          rw [brkO_iff, e87, a4, a6]
          exact ⟨fun q => q.2, fun q => ⟨hop, q⟩⟩
        refine ⟨fun c3 => ?_, fun c3 => ?_⟩
        · have hb := hbk.mpr (hz.pos c3)
          rw [mAdd_ok (a := 2) (by omega) (by omega), hti.1, mSub_ok (by omega) (by omega)]
          have cb := cntN_B u p w path g1 k
          rw [mAdd_ok (a := cntN u p w path g1 k) (by omega) (by omega)]
          have NT : Nw 86 329 0 u (mmS (payH u (path k) (w (path k)) G) 87 (path k) (G 87 (path k) - 1)) (mmS H2 329 (2 + path k) (g 87 (path k) - 1)) := by
            refine Nw_tiles hu (fun k' i q => mmS_cell q) (fun i q => by rw [mmS_slot, if_neg (by omega)]) (by rw [py u 1 (by omega)]; omega) (fun l' l1 l2 => ?_) NP
            have := NP.2.2.2.1 l' l1 l2
            simp only [Int.reduceAdd, Int.zero_add] at this
            rw [mmS_slot, mmS_slot, e87]
            by_cases q : l' = path k
            · rw [if_pos (by omega), if_pos q]; omega
            · rw [if_neg (by omega), if_neg q]; exact this
          have nn : ∀ i, mmS (payH u (path k) (w (path k)) G) 87 (path k) (G 87 (path k) - 1) u i = G u i := fun i => by rw [mmS_cell (by omega), py u i (by omega)]
          refine mmD_of (by omega) (mmD_of (by omega) (q_m_leads hu (by rw [nn, nn, nn]; omega) NT (fun H3 f3 N3 => ?_)))
          have := ih (k + 1) H3 (by omega) ((fH2.put rfl).tr (f3.mono (fun k i q => q.1))) (by
            show Nw 86 329 0 u (stepH u p (path k) (w (path k)) (goN u p w path g1 k)) H3
            rw [hG]
            unfold stepH
            rw [if_pos hb]
            exact N3)
          rw [cntN, hG, if_pos hb, show pP u g p (k + 1) = path k from hpk.symm] at this
          exact this
        · have hb : ¬ brkO u p (path k) G = true := fun q => hz.neg (Decidable.of_not_not c3) (hbk.mp q)
          have := ih (k + 1) H2 (by omega) fH2 (by
            show Nw 86 329 0 u (stepH u p (path k) (w (path k)) (goN u p w path g1 k)) H2
            rw [hG]
            unfold stepH
            rw [if_neg hb]
            exact NP)
          rw [cntN, hG, if_neg hb, show pP u g p (k + 1) = path k from hpk.symm] at this
          exact this
    have e12 : h1 329 (12 + 2 * p) = g 88 p := by rw [f1 329 _ (by unfold Smw Smc Smt Spm; omega)]; exact (Nw_at hN p1 p2).2.2.2.1
    rw [e12]
    exact key n 0 h1 (by omega) Fr.rf N1
  · rcases hp with ⟨q, rfl, fg⟩ | ⟨q, -⟩
    · exact hy _ (f1.mono (fun k i q => by unfold Smw Smc Smt Spm at q; omega)) (Cy_Sw3 hu fg f1 hC)
    · exact absurd q (hyy.neg (Decidable.of_not_not c))
end WM
