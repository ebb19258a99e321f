/-! ===== mm: the fewest tiles taken, laid: the rest of it ===== -/
section OPA
variable {d : Nat} {h m0 : mmH} {Q : Int → mmH → Prop}
theorem pA_openIfLaid {g : mmH} {p : Int} (hC : Cp 5 g m0) (p1 : 0 ≤ p) (p2 : p < g 5 3) (f0 : Fr (Swk 5) g h) (hW : Wk 5 g p h) (hy : ∀ h', Fr (Sct 5) h h' → Q (useV 5 g p) h') : qC tFA (d + 5) k_Walk_openIfLaid [96, 5, 86, p] h Q := by
  have n1 := hC.T.1.2.1.2.1
  refine qC_intro (TA_Walk_openIfLaid_0 _ _ _ _ _ _ ?_)
  have key : ∀ (m : Nat) (i b : Int) (h1 : mmH), i + m = g 5 1 → 0 ≤ i → Fr (Sct 5) h h1 → b = setOf i (fun l => decide (g 87 l = 0 ∧ tollC 5 g p l 1 ≠ -1)) → qB tFA (d + 4) k_Walk_openIfLaid (h 0 0) (h 0 1) Q 1 [(3, 96), (3, 5), (3, 86), (1, p), (1, b), (1, i)] [] h1 := by
    intro m
    induction m with
    | zero =>
      intro i b h1 hi i0 f1 hb
      have : i = g 5 1 := by omega
      subst this
      refine TA_Walk_openIfLaid_1 _ _ _ _ _ _ _ _ ⟨fun _ => ?_, fun c => absurd (by rw [f1 96 0 (by unfold Sct; omega), hW.1]; omega) c⟩
      rw [hb]
      exact hy h1 f1
    | succ m ih =>
      intro i b h1 hi i0 f1 hb
      have F : Fr (Swk 5) g h1 := f0.tr (f1.mono (fun _ _ q => Or.inl q))
      have hT1 : Tn 5 1 h1 m0 := Tn_frC (v := 46) (by decide) (F.mono (fun _ _ q => Swk_ScC (by decide) q)) hC.T
      have g87 : h1 87 i = g 87 i := F 87 i (by unfold Swk Sct; omega)
      have hte : tollC 5 h1 p i 1 = tollC 5 g p i 1 := tollC_eq (fun k j q => F k j (by unfold Swk Sct; omega)) p1 (by have := hC.T.1.2.1.2.2.1; omega) i0 (by omega)
      refine TA_Walk_openIfLaid_1 _ _ _ _ _ _ _ _ ⟨fun c => absurd c (by rw [f1 96 0 (by unfold Sct; omega), hW.1]; omega), fun _ => mmD_of (by omega) ?_⟩
      rw [g87, mAdd_ok (a := i) (by omega) (by omega)]
      have hn := setOf_succ (n := i) (fun l => decide (g 87 l = 0 ∧ tollC 5 g p l 1 ≠ -1)) i0
      refine ⟨fun c => ih (i + 1) b h1 (by omega) (by omega) f1 ?_, fun c => pA_tollAt hT1 (by rw [F 86 0 (by unfold Swk Sct; omega)]; exact hC.N.1.2) p1 (by rw [F 5 3 (by unfold Swk Sct; omega)]; exact p2) i0 (by rw [F 5 1 (by unfold Swk Sct; omega)]; omega) (by omega) (by omega) (fun h2 f2 => ?_)⟩
      · rw [hn, decide_eq_false (fun q => c q.1)]; exact hb
      · rw [hte]
        refine ⟨fun c2 => ih (i + 1) b h2 (by omega) (by omega) (f1.tr f2) ?_, fun c2 => ih (i + 1) _ h2 (by omega) (by omega) (f1.tr f2) ?_⟩
        · rw [hn, decide_eq_false (fun q => q.2 c2)]; exact hb
        · rw [hn, decide_eq_true ⟨Decidable.of_not_not c, c2⟩, hb]; rfl
  exact key (g 5 1).toNat 0 0 h (by omega) (Int.le_refl _) Fr.rf (by rw [setOf_zero])
theorem aA_opened {p a : Int} (hC : Cp 5 h m0) (hy : ∀ x h', Fr (Sw3 5) h h' → x = (if (0 ≤ p ∧ p < h 5 3) ∧ (a = 0 ∨ a = 1) then cobV (openF 5 h p) a else -1) → Q x h') : qC tFA (d + 6) k_c_opened [1, p, a] h Q := by
  have n1 := hC.T.1.2.1.2.1
  refine qC_intro (TA_c_opened_0 _ _ _ _ _ _ _ ⟨fun c => hy _ _ Fr.rf (by rw [if_neg (by omega)]), fun c => ⟨fun c2 => hy _ _ Fr.rf (by rw [if_neg (by omega)]), fun c2 => pA_isPerson (fun x hx => ⟨fun c3 => ?_, fun c3 => hy _ _ Fr.rf (by rw [if_neg (fun q => hx.neg (Decidable.of_not_not c3) q.1)])⟩)⟩⟩)
  obtain ⟨p1, p2⟩ := hx.pos c3
  obtain ⟨hs, hg, -, -, -⟩ := Nw_at hC.N p1 p2
  refine pA_look hC.T hC.N p1 p2 (fun h0 f0 hW0 => pA_openIfLaid hC p1 p2 f0 hW0 (fun h1 f1 => ?_))
  have hW : Wk 5 h p h1 := by
    have e96 : ∀ j, h1 96 j = h0 96 j := fun j => f1 96 j (by unfold Sct; omega)
    have e97 : ∀ j, h1 97 j = h0 97 j := fun j => f1 97 j (by unfold Sct; omega)
    have e98 : ∀ j, h1 98 j = h0 98 j := fun j => f1 98 j (by unfold Sct; omega)
    unfold Wk
    rw [e96, e96, e96, e96]
    refine ⟨hW0.1, hW0.2.1, hW0.2.2.1, hW0.2.2.2.1, fun l l1 l2 => ?_⟩
    rw [e97, e98]
    exact hW0.2.2.2.2 l l1 l2
  have fs : Fr (Swk 5) h h1 := f0.tr (f1.mono (fun _ _ q => Or.inl q))
  have f3 : Fr (Sw3 5) h h1 := fs.mono (fun k i q => by rcases q with q | q; exact Or.inl q; exact Or.inr (by omega))
  have e1 : h1 5 1 = h 5 1 := fs 5 1 (by unfold Swk Sct; omega)
  have hN := pow_1024 n1.1 n1.2
  have key : ∀ (m : Nat) (k best : Int) (w6 : mmV), k + m = mShl 1 (h 5 1) → 0 ≤ k → (best = -1 ∨ (0 ≤ best ∧ best < k)) → bstF (okO 5 h p (useV 5 h p)) pc m k best = openF 5 h p → qB tFA (d + 5) k_c_opened (h 0 0) (h 0 1) Q 3 [(3, 1), (1, p), (1, a), (1, useV 5 h p), (1, best), (1, k), w6] [] h1 := by
    intro m
    induction m with
    | zero =>
      intro k best w6 hk k0 hb he
      refine TA_c_opened_3 _ _ _ _ _ _ _ _ _ _ _ ⟨fun _ => pA_countOrBits (by omega) (by omega) (hy _ h1 f3 ?_), fun c => absurd (by rw [e1]; omega) c⟩
      rw [if_pos ⟨⟨p1, p2⟩, by omega⟩, ← he]
      rfl
    | succ m ih =>
      intro k best w6 hk k0 hb he
      rw [bstF_succ] at he
      have b6 : ∀ (s0 : Int) (w : mmV), YN s0 (best = -1 ∨ pc k < pc best) → qB tFA (d + 5) k_c_opened (h 0 0) (h 0 1) Q 6 [(3, 1), (1, p), (1, a), (1, useV 5 h p), (1, best), (1, k), w] [(1, s0)] h1 := by
        intro s0 w hs0
        refine TA_c_opened_6 _ _ _ _ _ _ _ _ _ _ _ _ ?_
        rw [mAdd_ok (a := k) (by omega) (by omega)]
        have stay : ¬ ((best = -1 ∨ pc k < pc best) ∧ okO 5 h p (useV 5 h p) k = true) → qB tFA (d + 5) k_c_opened (h 0 0) (h 0 1) Q 3 [(3, 1), (1, p), (1, a), (1, useV 5 h p), (1, best), (1, k + 1), (1, s0)] [] h1 :=
          fun q => ih (k + 1) best _ (by omega) (by omega) (by omega) (by rw [if_neg q] at he; exact he)
        refine ⟨fun c => stay (fun q => ?_), fun c => ⟨fun c4 => stay (fun q => hs0.neg c4 q.1), fun c4 => ?_⟩⟩
        · have := q.2
          unfold okO at this
          rw [decide_eq_false c] at this
          cases this
        · have c := Decidable.of_not_not c
          refine pA_arr (g := h) (p := p) (gone := 0) (op := k) (ow := 31) n1 hs hg hW (fun b b1 b2 => ?_) (fun z hz => ⟨fun c5 => stay (fun q => ?_), fun c5 => ih (k + 1) k _ (by omega) (by omega) (Or.inr ⟨k0, by omega⟩) ?_⟩)
          · have hob := (hC.T.2.1 b b1 b2).1
            have h31 := cnS_all (g := h) (u := 5) (p := p) (l := b) ⟨hob.2.1, by have := hC.T.1.2.1.1; omega⟩
            rw [tb_or, hW.2.2.2.1, setOf_tb n1.1 (by omega) b1 (by omega), decide_eq_true b2, ← h31]
            have hu : tb k b = true → h 87 b = 0 ∧ tollC 5 h p b 1 ≠ -1 := fun e => by
              have := and_not_tb.mp c b b1 (by omega) e
              unfold useV at this
              rw [setOf_tb n1.1 (by omega) b1 (by omega), decide_eq_true b2] at this
              simpa using this
            have h5 : tb 31 (h (5 + 5 + b) 0) = true := by
              have : ∀ o : Fin 5, tb 31 (o.val : Int) = true := by decide +kernel
              have h6 := this ⟨(h (5 + 5 + b) 0).toNat, by have := hC.T.1.2.1.1; omega⟩
              rw [show (((h (5 + 5 + b) 0).toNat : Nat) : Int) = h (5 + 5 + b) 0 by omega] at h6
              exact h6
            unfold cnS tlS
            rw [tb_zero, h5]
            cases e : tb k b with
            | false => simp
            | true =>
              obtain ⟨q1, q2⟩ := hu e
              rw [q1]
              simp [q2]
          · have := q.2
            unfold okO at this
            rw [Bool.and_eq_true] at this
            exact hz.neg c5 this.2
          · rw [if_pos ⟨hs0.pos c4, by unfold okO; rw [decide_eq_true c, hz.pos c5]; rfl⟩] at he
            exact he
      refine TA_c_opened_3 _ _ _ _ _ _ _ _ _ _ _ ⟨fun c => absurd c (by rw [e1]; omega), fun _ => ⟨fun c => b6 1 _ (YN.yes (Or.inl c)), fun c => pA_bitCount k0 (by omega) (pA_bitCount (by omega) (by omega) ⟨fun c4 => b6 0 _ (YN.no (by omega)), fun c4 => b6 1 _ (YN.yes (Or.inr (by omega)))⟩)⟩⟩
  exact key (mShl 1 (h 5 1)).toNat 0 (-1) _ (by omega) (Int.le_refl _) (Or.inl rfl) rfl
end OPA
section OPB
variable {d : Nat} {h m0 : mmH} {Q : Int → mmH → Prop}
theorem pB_openIfLaid {g : mmH} {p : Int} (hC : Cp 46 g m0) (p1 : 0 ≤ p) (p2 : p < g 46 3) (f0 : Fr (Swk 46) g h) (hW : Wk 46 g p h) (hy : ∀ h', Fr (Sct 46) h h' → Q (useV 46 g p) h') : qC tFB (d + 5) k_Walk_openIfLaid [96, 46, 86, p] h Q := by
  have n1 := hC.T.1.2.1.2.1
  refine qC_intro (TB_Walk_openIfLaid_0 _ _ _ _ _ _ ?_)
  have key : ∀ (m : Nat) (i b : Int) (h1 : mmH), i + m = g 46 1 → 0 ≤ i → Fr (Sct 46) h h1 → b = setOf i (fun l => decide (g 87 l = 0 ∧ tollC 46 g p l 1 ≠ -1)) → qB tFB (d + 4) k_Walk_openIfLaid (h 0 0) (h 0 1) Q 1 [(3, 96), (3, 46), (3, 86), (1, p), (1, b), (1, i)] [] h1 := by
    intro m
    induction m with
    | zero =>
      intro i b h1 hi i0 f1 hb
      have : i = g 46 1 := by omega
      subst this
      refine TB_Walk_openIfLaid_1 _ _ _ _ _ _ _ _ ⟨fun _ => ?_, fun c => absurd (by rw [f1 96 0 (by unfold Sct; omega), hW.1]; omega) c⟩
      rw [hb]
      exact hy h1 f1
    | succ m ih =>
      intro i b h1 hi i0 f1 hb
      have F : Fr (Swk 46) g h1 := f0.tr (f1.mono (fun _ _ q => Or.inl q))
      have hT1 : Tn 46 1 h1 m0 := Tn_frC (v := 5) (by decide) (F.mono (fun _ _ q => Swk_ScC (by decide) q)) hC.T
      have g87 : h1 87 i = g 87 i := F 87 i (by unfold Swk Sct; omega)
      have hte : tollC 46 h1 p i 1 = tollC 46 g p i 1 := tollC_eq (fun k j q => F k j (by unfold Swk Sct; omega)) p1 (by have := hC.T.1.2.1.2.2.1; omega) i0 (by omega)
      refine TB_Walk_openIfLaid_1 _ _ _ _ _ _ _ _ ⟨fun c => absurd c (by rw [f1 96 0 (by unfold Sct; omega), hW.1]; omega), fun _ => mmD_of (by omega) ?_⟩
      rw [g87, mAdd_ok (a := i) (by omega) (by omega)]
      have hn := setOf_succ (n := i) (fun l => decide (g 87 l = 0 ∧ tollC 46 g p l 1 ≠ -1)) i0
      refine ⟨fun c => ih (i + 1) b h1 (by omega) (by omega) f1 ?_, fun c => pB_tollAt hT1 (by rw [F 86 0 (by unfold Swk Sct; omega)]; exact hC.N.1.2) p1 (by rw [F 46 3 (by unfold Swk Sct; omega)]; exact p2) i0 (by rw [F 46 1 (by unfold Swk Sct; omega)]; omega) (by omega) (by omega) (fun h2 f2 => ?_)⟩
      · rw [hn, decide_eq_false (fun q => c q.1)]; exact hb
      · rw [hte]
        refine ⟨fun c2 => ih (i + 1) b h2 (by omega) (by omega) (f1.tr f2) ?_, fun c2 => ih (i + 1) _ h2 (by omega) (by omega) (f1.tr f2) ?_⟩
        · rw [hn, decide_eq_false (fun q => q.2 c2)]; exact hb
        · rw [hn, decide_eq_true ⟨Decidable.of_not_not c, c2⟩, hb]; rfl
  exact key (g 46 1).toNat 0 0 h (by omega) (Int.le_refl _) Fr.rf (by rw [setOf_zero])
theorem aB_opened {p a : Int} (hC : Cp 46 h m0) (hy : ∀ x h', Fr (Sw3 46) h h' → x = (if (0 ≤ p ∧ p < h 46 3) ∧ (a = 0 ∨ a = 1) then cobV (openF 46 h p) a else -1) → Q x h') : qC tFB (d + 6) k_c_opened [1, p, a] h Q := by
  have n1 := hC.T.1.2.1.2.1
  refine qC_intro (TB_c_opened_0 _ _ _ _ _ _ _ ⟨fun c => hy _ _ Fr.rf (by rw [if_neg (by omega)]), fun c => ⟨fun c2 => hy _ _ Fr.rf (by rw [if_neg (by omega)]), fun c2 => pB_isPerson (fun x hx => ⟨fun c3 => ?_, fun c3 => hy _ _ Fr.rf (by rw [if_neg (fun q => hx.neg (Decidable.of_not_not c3) q.1)])⟩)⟩⟩)
  obtain ⟨p1, p2⟩ := hx.pos c3
  obtain ⟨hs, hg, -, -, -⟩ := Nw_at hC.N p1 p2
  refine pB_look hC.T hC.N p1 p2 (fun h0 f0 hW0 => pB_openIfLaid hC p1 p2 f0 hW0 (fun h1 f1 => ?_))
  have hW : Wk 46 h p h1 := by
    have e96 : ∀ j, h1 96 j = h0 96 j := fun j => f1 96 j (by unfold Sct; omega)
    have e97 : ∀ j, h1 97 j = h0 97 j := fun j => f1 97 j (by unfold Sct; omega)
    have e98 : ∀ j, h1 98 j = h0 98 j := fun j => f1 98 j (by unfold Sct; omega)
    unfold Wk
    rw [e96, e96, e96, e96]
    refine ⟨hW0.1, hW0.2.1, hW0.2.2.1, hW0.2.2.2.1, fun l l1 l2 => ?_⟩
    rw [e97, e98]
    exact hW0.2.2.2.2 l l1 l2
  have fs : Fr (Swk 46) h h1 := f0.tr (f1.mono (fun _ _ q => Or.inl q))
  have f3 : Fr (Sw3 46) h h1 := fs.mono (fun k i q => by rcases q with q | q; exact Or.inl q; exact Or.inr (by omega))
  have e1 : h1 46 1 = h 46 1 := fs 46 1 (by unfold Swk Sct; omega)
  have hN := pow_1024 n1.1 n1.2
  have key : ∀ (m : Nat) (k best : Int) (w6 : mmV), k + m = mShl 1 (h 46 1) → 0 ≤ k → (best = -1 ∨ (0 ≤ best ∧ best < k)) → bstF (okO 46 h p (useV 46 h p)) pc m k best = openF 46 h p → qB tFB (d + 5) k_c_opened (h 0 0) (h 0 1) Q 3 [(3, 1), (1, p), (1, a), (1, useV 46 h p), (1, best), (1, k), w6] [] h1 := by
    intro m
    induction m with
    | zero =>
      intro k best w6 hk k0 hb he
      refine TB_c_opened_3 _ _ _ _ _ _ _ _ _ _ _ ⟨fun _ => pB_countOrBits (by omega) (by omega) (hy _ h1 f3 ?_), fun c => absurd (by rw [e1]; omega) c⟩
      rw [if_pos ⟨⟨p1, p2⟩, by omega⟩, ← he]
      rfl
    | succ m ih =>
      intro k best w6 hk k0 hb he
      rw [bstF_succ] at he
      have b6 : ∀ (s0 : Int) (w : mmV), YN s0 (best = -1 ∨ pc k < pc best) → qB tFB (d + 5) k_c_opened (h 0 0) (h 0 1) Q 6 [(3, 1), (1, p), (1, a), (1, useV 46 h p), (1, best), (1, k), w] [(1, s0)] h1 := by
        intro s0 w hs0
        refine TB_c_opened_6 _ _ _ _ _ _ _ _ _ _ _ _ ?_
        rw [mAdd_ok (a := k) (by omega) (by omega)]
        have stay : ¬ ((best = -1 ∨ pc k < pc best) ∧ okO 46 h p (useV 46 h p) k = true) → qB tFB (d + 5) k_c_opened (h 0 0) (h 0 1) Q 3 [(3, 1), (1, p), (1, a), (1, useV 46 h p), (1, best), (1, k + 1), (1, s0)] [] h1 :=
          fun q => ih (k + 1) best _ (by omega) (by omega) (by omega) (by rw [if_neg q] at he; exact he)
        refine ⟨fun c => stay (fun q => ?_), fun c => ⟨fun c4 => stay (fun q => hs0.neg c4 q.1), fun c4 => ?_⟩⟩
        · have := q.2
          unfold okO at this
          rw [decide_eq_false c] at this
          cases this
        · have c := Decidable.of_not_not c
          refine pB_arr (g := h) (p := p) (gone := 0) (op := k) (ow := 31) n1 hs hg hW (fun b b1 b2 => ?_) (fun z hz => ⟨fun c5 => stay (fun q => ?_), fun c5 => ih (k + 1) k _ (by omega) (by omega) (Or.inr ⟨k0, by omega⟩) ?_⟩)
          · have hob := (hC.T.2.1 b b1 b2).1
            have h31 := cnS_all (g := h) (u := 46) (p := p) (l := b) ⟨hob.2.1, by have := hC.T.1.2.1.1; omega⟩
            rw [tb_or, hW.2.2.2.1, setOf_tb n1.1 (by omega) b1 (by omega), decide_eq_true b2, ← h31]
            have hu : tb k b = true → h 87 b = 0 ∧ tollC 46 h p b 1 ≠ -1 := fun e => by
              have := and_not_tb.mp c b b1 (by omega) e
              unfold useV at this
              rw [setOf_tb n1.1 (by omega) b1 (by omega), decide_eq_true b2] at this
              simpa using this
            have h5 : tb 31 (h (46 + 5 + b) 0) = true := by
              have : ∀ o : Fin 5, tb 31 (o.val : Int) = true := by decide +kernel
              have h6 := this ⟨(h (46 + 5 + b) 0).toNat, by have := hC.T.1.2.1.1; omega⟩
              rw [show (((h (46 + 5 + b) 0).toNat : Nat) : Int) = h (46 + 5 + b) 0 by omega] at h6
              exact h6
            unfold cnS tlS
            rw [tb_zero, h5]
            cases e : tb k b with
            | false => simp
            | true =>
              obtain ⟨q1, q2⟩ := hu e
              rw [q1]
              simp [q2]
          · have := q.2
            unfold okO at this
            rw [Bool.and_eq_true] at this
            exact hz.neg c5 this.2
          · rw [if_pos ⟨hs0.pos c4, by unfold okO; rw [decide_eq_true c, hz.pos c5]; rfl⟩] at he
            exact he
      refine TB_c_opened_3 _ _ _ _ _ _ _ _ _ _ _ ⟨fun c => absurd c (by rw [e1]; omega), fun _ => ⟨fun c => b6 1 _ (YN.yes (Or.inl c)), fun c => pB_bitCount k0 (by omega) (pB_bitCount (by omega) (by omega) ⟨fun c4 => b6 0 _ (YN.no (by omega)), fun c4 => b6 1 _ (YN.yes (Or.inr (by omega)))⟩)⟩⟩
  exact key (mShl 1 (h 46 1)).toNat 0 (-1) _ (by omega) (Int.le_refl _) (Or.inl rfl) rfl
end OPB
section OM
variable {d : Nat} {u : Int} {g h : mmH} {Q : Int → mmH → Prop}
theorem b_stopped {p a : Int} (hC : Cp u g h) (hy : ∀ x h', Fr Smw h h' → x = (if (0 ≤ p ∧ p < g u 3) ∧ (a = 0 ∨ a = 1) then stopV u g (stopF u g p) a else -1) → Q x h') : qC tFM (d + 6) k_m_stopped [282, p, a] h Q := by
  obtain ⟨m0, m1, m2, m3, m4⟩ := hC.many
  obtain ⟨w0, w1, w2, w3, w4, w5, w6⟩ := hC.now
  have n1 := hC.T.1.2.1.2.1
  have n3 := hC.T.1.2.1.2.2.1
  refine qC_intro (T_m_stopped_0 _ _ _ _ _ _ _ (q_m_isPerson (by omega) (by omega) (fun x hx => ⟨fun c => hy _ _ Fr.rf (by rw [if_neg (fun q => hx.neg c (by omega))]), fun c => q_m_isIn (fun z hz => ⟨fun c2 => ?_, fun c2 => hy _ _ Fr.rf (by rw [if_neg (fun q => hz.neg (Decidable.of_not_not c2) (by omega))])⟩)⟩)))
  have hp := hx.pos c
  rw [m2] at hp
  have ha := hz.pos c2
  have hN := pow_1024 n1.1 n1.2
  obtain ⟨hs, hg, -, e12, e13⟩ := Nw_at hC.N hp.1 hp.2
  refine q_m_placeOf hp.1 (by omega) (q_m_goalOf hp.1 (by omega) ?_)
  rw [e12, e13]
  have key6 : ∀ (m : Nat) (k best : Int) (h1 : mmH), Fr Smw h h1 → k + m = mShl 1 (g u 1) → 0 ≤ k → (best = -1 ∨ (0 ≤ best ∧ best < k)) → bstF (fun s => decide (mAnd s (keptV u g p) = 0) && !okG u g p s 0 31) (tilesIn u g) m k best = stopF u g p → qB tFM (d + 5) k_m_stopped (h 0 0) (h 0 1) Q 6 [(3, 282), (1, p), (1, a), (1, keptV u g p), (1, best), (1, k)] [] h1 := by
    intro m
    induction m with
    | zero =>
      intro k best h1 f1 hk k0 hb he
      have he2 : best = stopF u g p := he
      have e6 : h1 313 6 = g u 1 := by rw [f1 313 6 (by unfold Smw Smc Smt Spm; omega), m1]
      have hy2 : ∀ x, x = stopV u g best a → Q x h1 := fun x q => hy x h1 f1 (by rw [if_pos ⟨hp, by omega⟩, ← he2]; exact q)
      unfold stopV at hy2
      refine T_m_stopped_6 _ _ _ _ _ _ _ _ _ _ (q_m_lotMany ⟨fun _ => ⟨fun c3 => ⟨fun c4 => hy2 _ (by rw [if_neg c3, if_neg c4]), fun c4 => q_m_tilesBy (by omega) (by omega) (hy2 _ ?_)⟩, fun c3 => hy2 _ (by rw [if_pos (Decidable.of_not_not c3)])⟩, fun c => absurd (by rw [e6]; omega) c⟩)
      rw [if_neg c3, if_pos (Decidable.of_not_not c4), e6]
      exact upTo_congr (fun i s i1 i2 => by rw [f1 329 _ (by unfold Smw Smc Smt Spm; omega), (w3 i i1 i2).1])
    | succ m ih =>
      intro k best h1 f1 hk k0 hb he
      rw [bstF_succ] at he
      obtain ⟨hT1, hN1⟩ := Cp_Smw hC f1
      have e6 : h1 313 6 = g u 1 := by rw [f1 313 6 (by unfold Smw Smc Smt Spm; omega), m1]
      have ht : ∀ s, upTo (fun l a => bif tb s l then mAdd a (h1 329 (2 + l)) else a) 0 (h1 313 6) 0 = tilesIn u g s := fun s => by
        rw [e6]
        exact upTo_congr (fun i s i1 i2 => by rw [f1 329 _ (by unfold Smw Smc Smt Spm; omega), (w3 i i1 i2).1])
      have b7 : (best = -1 ∨ tilesIn u g k < tilesIn u g best) → mAnd k (keptV u g p) = 0 → qB tFM (d + 5) k_m_stopped (h 0 0) (h 0 1) Q 7 [(3, 282), (1, p), (1, a), (1, keptV u g p), (1, best), (1, k)] [] h1 := by
        intro hs0 hcd
        refine T_m_stopped_7 _ _ _ _ _ _ _ _ _ _ (q_m_cf hC.uu hT1 hN1 hp.1 hp.2 (fun h2 x f2 _ hx2 => ?_))
        have hx3 := okG_YN hx2
        rw [mAdd_ok (a := k) (by omega) (by omega)]
        refine ⟨fun c4 => ih (k + 1) best h2 (f1.tr f2) (by omega) (by omega) (by omega) (by rw [if_neg (fun q => by have := q.2; rw [hx3.pos c4] at this; simp at this)] at he; exact he), fun c4 => ih (k + 1) k h2 (f1.tr f2) (by omega) (by omega) (Or.inr ⟨k0, by omega⟩) ?_⟩
        have hno : okG u g p k 0 31 = false := by
          cases e : okG u g p k 0 31 with
          | false => rfl
          | true => exact absurd e (hx3.neg (Decidable.of_not_not c4))
        rw [if_pos ⟨hs0, by rw [decide_eq_true hcd, hno]; rfl⟩] at he
        exact he
      refine T_m_stopped_6 _ _ _ _ _ _ _ _ _ _ (q_m_lotMany ⟨fun c => absurd c (by rw [e6]; omega), fun _ => ?_⟩)
      rw [mAdd_ok (a := k) (by omega) (by omega)]
      refine ⟨fun c3 => ih (k + 1) best h1 f1 (by omega) (by omega) (by omega) (by rw [if_neg (fun q => by have := q.2; rw [decide_eq_false c3] at this; cases this)] at he; exact he), fun c3 => ⟨fun c4 => b7 (Or.inl c4) (Decidable.of_not_not c3), fun c4 => q_m_tilesBy (by omega) (by omega) (q_m_tilesBy (by omega) (by omega) ?_)⟩⟩
      rw [ht, ht]
      exact ⟨fun c5 => b7 (Or.inr c5) (Decidable.of_not_not c3), fun c5 => ih (k + 1) best h1 f1 (by omega) (by omega) (by omega) (by rw [if_neg (fun q => by omega)] at he; exact he)⟩
  have key3 : ∀ (m : Nat) (i b : Int), i + m = g u 1 → 0 ≤ i → (∀ l, 0 ≤ l → l < 32 → tb b l = ((decide (l < i) && decide (g (u + 5 + l) 4 = 1)) || decide (l = g 88 p ∨ l = g 89 p))) → InI b → qB tFM (d + 5) k_m_stopped (h 0 0) (h 0 1) Q 3 [(3, 282), (1, p), (1, a), (1, b), (1, i), (0, 0)] [] h := by
    intro m
    induction m with
    | zero =>
      intro i b hi i0 hb hI
      have : i = g u 1 := by omega
      subst this
      have hK : b = keptV u g p := by
        refine tb_ext hI (setOf_InI _ _ n1.1) (fun l l1 l2 => ?_)
        unfold keptV
        rw [hb l l1 l2, setOf_tb n1.1 (by omega) l1 l2, Bool.eq_iff_iff]
        simp only [Bool.or_eq_true, Bool.and_eq_true, decide_eq_true_eq]
        constructor
        · rintro (⟨q1, q2⟩ | q)
          · exact ⟨q1, Or.inl q2⟩
          · exact ⟨by omega, Or.inr q⟩
        · rintro ⟨q1, q2 | q2⟩
          · exact Or.inl ⟨q1, q2⟩
          · exact Or.inr q2
      rw [hK]
      exact T_m_stopped_3 _ _ _ _ _ _ _ _ _ (q_m_lotMany ⟨fun _ => key6 (mShl 1 (g u 1)).toNat 0 (-1) h Fr.rf (by omega) (Int.le_refl _) (Or.inl rfl) rfl, fun c => absurd (by omega) c⟩)
    | succ m ih =>
      intro i b hi i0 hb hI
      have hst := (hC.T.2.1 i i0 (by omega)).2.2.2.2
      simp only [Int.reduceMul] at hst
      refine T_m_stopped_3 _ _ _ _ _ _ _ _ _ (q_m_lotMany ⟨fun c => absurd c (by omega), fun _ => q_m_hasStork i0 (by omega) (fun z hz => ?_)⟩)
      rw [hst.1] at hz
      rw [mAdd_ok (a := i) (by omega) (by omega)]
      refine ⟨fun c3 => ih (i + 1) b (by omega) (by omega) (fun l l1 l2 => ?_) hI, fun c3 => ih (i + 1) _ (by omega) (by omega) (fun l l1 l2 => ?_) (InI_or _ _)⟩
      · rw [hb l l1 l2]
        by_cases el : l = i
        · subst el; rw [decide_eq_false (hz.neg c3)]; simp
        · by_cases e3 : l < i
          · rw [decide_eq_true e3, decide_eq_true (show l < i + 1 by omega)]
          · rw [decide_eq_false e3, decide_eq_false (show ¬ l < i + 1 by omega)]
      · rw [tb_or, hb l l1 l2, tb_shl1 i0 (by omega) l1 l2]
        by_cases el : l = i
        · subst el; rw [decide_eq_true (hz.pos c3), decide_eq_true (show l < l + 1 by omega)]; simp
        · by_cases e3 : l < i
          · rw [decide_eq_true e3, decide_eq_true (show l < i + 1 by omega), decide_eq_false el]; simp
          · rw [decide_eq_false e3, decide_eq_false (show ¬ l < i + 1 by omega), decide_eq_false el]; simp
  refine key3 (g u 1).toNat 0 _ (by omega) (Int.le_refl _) (fun l l1 l2 => ?_) (InI_or _ _)
  rw [tb_or, tb_shl1 hs.1 (by omega) l1 l2, tb_shl1 hg.1 (by omega) l1 l2, decide_eq_false (show ¬ l < 0 by omega)]
  by_cases q1 : l = g 88 p <;> by_cases q2 : l = g 89 p <;> simp [q1, q2]
theorem b_opened {p a : Int} (hC : Cp u g h) (hy : ∀ x h', Fr Smw h h' → x = (if (0 ≤ p ∧ p < g u 3) ∧ (a = 0 ∨ a = 1) then cobV (openF u g p) a else -1) → Q x h') : qC tFM (d + 6) k_m_opened [282, p, a] h Q := by
  obtain ⟨m0, m1, m2, m3, m4⟩ := hC.many
  obtain ⟨w0, w1, w2, w3, w4, w5, w6⟩ := hC.now
  have n1 := hC.T.1.2.1.2.1
  have n3 := hC.T.1.2.1.2.2.1
  refine qC_intro (T_m_opened_0 _ _ _ _ _ _ _ (q_m_isPerson (by omega) (by omega) (fun x hx => ⟨fun c => hy _ _ Fr.rf (by rw [if_neg (fun q => hx.neg c (by omega))]), fun c => q_m_isIn (fun z hz => ⟨fun c2 => q_m_holes (by omega) (by omega) ?_, fun c2 => hy _ _ Fr.rf (by rw [if_neg (fun q => hz.neg (Decidable.of_not_not c2) (by omega))])⟩)⟩)))
  have hp := hx.pos c
  rw [m2] at hp
  have ha := hz.pos c2
  have hN := pow_1024 n1.1 n1.2
  rw [m1, show setOf (g u 1) (fun l => decide (h 329 (2 + l) = 0)) = holesV u g from setOf_congr (fun l l1 l2 => by rw [(w3 l l1 l2).1])]
  have key : ∀ (m : Nat) (k best : Int) (h1 : mmH), Fr Smw h h1 → k + m = mShl 1 (g u 1) → 0 ≤ k → (best = -1 ∨ (0 ≤ best ∧ best < k)) → bstF (okO u g p (holesV u g)) pc m k best = openF u g p → qB tFM (d + 5) k_m_opened (h 0 0) (h 0 1) Q 3 [(3, 282), (1, p), (1, a), (1, holesV u g), (1, best), (1, k)] [] h1 := by
    intro m
    induction m with
    | zero =>
      intro k best h1 f1 hk k0 hb he
      have he2 : best = openF u g p := he
      have e6 : h1 313 6 = g u 1 := by rw [f1 313 6 (by unfold Smw Smc Smt Spm; omega), m1]
      have hy2 : ∀ x, x = cobV best a → Q x h1 := fun x q => hy x h1 f1 (by rw [if_pos ⟨hp, by omega⟩, ← he2]; exact q)
      unfold cobV at hy2
      exact T_m_opened_3 _ _ _ _ _ _ _ _ _ _ (q_m_lotMany ⟨fun _ => ⟨fun c3 => ⟨fun c4 => hy2 _ (by rw [if_neg c3, if_neg c4]), fun c4 => q_m_bits (by omega) (by omega) (hy2 _ (by rw [if_neg c3, if_pos (Decidable.of_not_not c4)]))⟩, fun c3 => hy2 _ (by rw [if_pos (Decidable.of_not_not c3)])⟩, fun c => absurd (by rw [e6]; omega) c⟩)
    | succ m ih =>
      intro k best h1 f1 hk k0 hb he
      rw [bstF_succ] at he
      obtain ⟨hT1, hN1⟩ := Cp_Smw hC f1
      have e6 : h1 313 6 = g u 1 := by rw [f1 313 6 (by unfold Smw Smc Smt Spm; omega), m1]
      have b4 : (best = -1 ∨ pc k < pc best) → mAnd k (mXor (holesV u g) (-1)) = 0 → qB tFM (d + 5) k_m_opened (h 0 0) (h 0 1) Q 4 [(3, 282), (1, p), (1, a), (1, holesV u g), (1, best), (1, k)] [] h1 := by
        intro hs0 hcd
        refine T_m_opened_4 _ _ _ _ _ _ _ _ _ _ (q_m_cf hC.uu hT1 hN1 hp.1 hp.2 (fun h2 x f2 _ hx2 => ?_))
        have hx3 := okG_YN hx2
        rw [mAdd_ok (a := k) (by omega) (by omega)]
        refine ⟨fun c4 => ih (k + 1) best h2 (f1.tr f2) (by omega) (by omega) (by omega) ?_, fun c4 => ih (k + 1) k h2 (f1.tr f2) (by omega) (by omega) (Or.inr ⟨k0, by omega⟩) ?_⟩
        · rw [if_neg (fun q => by have := q.2; unfold okO at this; rw [Bool.and_eq_true] at this; exact hx3.neg c4 this.2)] at he
          exact he
        · rw [if_pos ⟨hs0, by unfold okO; rw [decide_eq_true hcd, hx3.pos c4]; rfl⟩] at he
          exact he
      refine T_m_opened_3 _ _ _ _ _ _ _ _ _ _ (q_m_lotMany ⟨fun c => absurd c (by rw [e6]; omega), fun _ => ?_⟩)
      rw [mAdd_ok (a := k) (by omega) (by omega)]
      refine ⟨fun c3 => ih (k + 1) best h1 f1 (by omega) (by omega) (by omega) ?_, fun c3 => ⟨fun c4 => b4 (Or.inl c4) (Decidable.of_not_not c3), fun c4 => q_m_bits k0 (by omega) (q_m_bits (by omega) (by omega) ⟨fun c5 => b4 (Or.inr c5) (Decidable.of_not_not c3), fun c5 => ih (k + 1) best h1 f1 (by omega) (by omega) (by omega) ?_⟩)⟩⟩
      · rw [if_neg (fun q => by have := q.2; unfold okO at this; rw [decide_eq_false c3] at this; cases this)] at he
        exact he
      · rw [if_neg (fun q => by omega)] at he
        exact he
  exact key (mShl 1 (g u 1)).toNat 0 (-1) h Fr.rf (by omega) (Int.le_refl _) (Or.inl rfl) (open_eq hC.T)
end OM
