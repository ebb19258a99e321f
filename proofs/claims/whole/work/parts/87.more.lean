/-! ===== mm: reach, burns, worth ===== -/
section RM
variable {d : Nat} {u : Int} {g h : mmH} {Q : Int → mmH → Prop}
theorem b_reach {p : Int} (hC : Cp u g h) (hy : ∀ x h', Fr Smw h h' → ((0 ≤ p ∧ p < g u 3) ∧ isCl (g u 1) (eP u g p) (g 88 p) x ∨ (¬ (0 ≤ p ∧ p < g u 3) ∧ x = -1)) → Q x h') : qC tFM (d + 6) k_m_reach [282, p] h Q := by
  obtain ⟨m0, m1, m2, m3, m4⟩ := hC.many
  obtain ⟨w0, w1, w2, w3, w4, w5, w6⟩ := hC.now
  have n1 := hC.T.1.2.1.2.1
  have n3 := hC.T.1.2.1.2.2.1
  refine qC_intro (T_m_reach_0 _ _ _ _ _ _ (q_m_isPerson (by omega) (by omega) (fun x hx => ⟨fun c => ?_, fun c => hy _ _ Fr.rf (Or.inr ⟨fun q => hx.neg (Decidable.of_not_not c) (by omega), rfl⟩)⟩)))
  have hp := hx.pos c
  rw [m2] at hp
  obtain ⟨hs, hg, -, e12, e13⟩ := Nw_at hC.N hp.1 hp.2
  refine q_m_comes hC.uu hC.T hC.N hp.1 hp.2 (fun h1 f1 hl => q_m_placeOf hp.1 (by omega) ?_)
  have F1 : Fr Smw h h1 := f1.mono (fun _ _ q => Or.inl q)
  obtain ⟨hT1, hN1⟩ := Cp_Smw hC F1
  have e6 : h1 313 6 = g u 1 := by rw [F1 313 6 (by unfold Smw Smc Smt Spm; omega), m1]
  have e329 : ∀ j, h1 329 j = h 329 j := fun j => F1 329 j (by unfold Smw Smc Smt Spm; omega)
  have hcn : ∀ l, 0 ≤ l → l < g u 1 → h1 330 l = if opS u g p l = true then 1 else 0 := by
    intro l l1 l2
    have := (hl l l1 l2).2
    have hll := (hC.T.2.1 l l1 l2).1
    rw [cnS_all ⟨hll.2.1, by have := hC.T.1.2.1.1; omega⟩] at this
    exact this
  rw [e329, e12]
  have key : ∀ (m : Nat) (r R : Int) (w4 w5 : mmV), r + m = g u 1 → 0 ≤ r → (Q (upI (fun _ R => gsR (g u 1) (eP u g p) R) m r R) h1) → qB tFM (d + 5) k_m_reach (h 0 0) (h 0 1) Q 2 [(3, 282), (1, p), (1, R), (1, r), w4, w5] [] h1 := by
    intro m
    induction m with
    | zero =>
      intro r R w4 w5 hr r0 hq
      exact T_m_reach_2 _ _ _ _ _ _ _ _ _ _ (q_m_lotMany ⟨fun _ => hq, fun c => absurd (by omega) c⟩)
    | succ m ih =>
      intro r R w4 w5 hr r0 hq
      refine T_m_reach_2 _ _ _ _ _ _ _ _ _ _ (q_m_lotMany ⟨fun c => absurd c (by omega), fun _ => ?_⟩)
      refine upTo_go (P := fun a (R : Int) => ∀ w5, qB tFM (d + 5) k_m_reach (h 0 0) (h 0 1) Q 3 [(3, 282), (1, p), (1, R), (1, r), (1, a), w5] [] h1) (f := fun a R => upTo (fun b R => bif tb R a && eP u g p a b then mOr R (mShl 1 b) else R) 0 (g u 1) R) 0 (g u 1) R n1.1 (fun a R a1 a2 hp3 w5 => ?_) (fun w5 => T_m_reach_3 _ _ _ _ _ _ _ _ _ _ (q_m_lotMany ⟨fun _ => ?_, fun c => absurd (by omega) c⟩)) _
      · refine T_m_reach_3 _ _ _ _ _ _ _ _ _ _ (q_m_lotMany ⟨fun c => absurd c (by omega), fun _ => ?_⟩)
        refine upTo_go (P := fun b (R : Int) => qB tFM (d + 5) k_m_reach (h 0 0) (h 0 1) Q 4 [(3, 282), (1, p), (1, R), (1, r), (1, a), (1, b)] [] h1) (f := fun b R => bif tb R a && eP u g p a b then mOr R (mShl 1 b) else R) 0 (g u 1) R n1.1 (fun b R b1 b2 hp4 => ?_) (T_m_reach_4 _ _ _ _ _ _ _ _ _ _ (q_m_lotMany ⟨fun _ => by rw [mAdd_ok (a := a) (by omega) (by omega)]; exact hp3 _, fun c => absurd (by omega) c⟩))
        refine T_m_reach_4 _ _ _ _ _ _ _ _ _ _ (q_m_lotMany ⟨fun c => absurd c (by omega), fun _ => ?_⟩)
        rw [mAdd_ok (a := b) (by omega) (by omega), Ne, bit_is a1 (by omega)]
        refine ⟨fun c1 => ?_, fun c1 => mmD_of (by omega) ?_⟩
        · rw [Bool.eq_false_iff.mpr c1] at hp4; exact hp4
        · rw [Decidable.of_not_not c1] at hp4
          rw [hcn b b1 b2]
          refine ⟨fun c2 => ?_, fun c2 => q_m_isNear hT1 (by rw [e329]; exact w1) hp.1 hp.2 a1 a2 b1 b2 (fun z hz => ⟨fun c3 => ?_, fun c3 => ?_⟩)⟩
          · have : opS u g p b = false := by
              cases e : opS u g p b with
              | false => rfl
              | true => rw [e] at c2; simp at c2
            unfold eP at hp4
            rw [this] at hp4
            simp only [Bool.and_false, cond_false] at hp4
            exact hp4
          · unfold eP at hp4
            rw [Bool.eq_false_iff.mpr (hz.neg c3)] at hp4
            simp only [Bool.false_and, Bool.and_false, cond_false] at hp4
            exact hp4
          · have : opS u g p b = true := by
              cases e : opS u g p b with
              | true => rfl
              | false => rw [e] at c2; simp at c2
            unfold eP at hp4
            rw [this, hz.pos c3] at hp4
            exact hp4
      · rw [mAdd_ok (a := r) (by omega) (by omega)]
        exact ih (r + 1) _ _ _ (by omega) (by omega) hq
  exact key (g u 1).toNat 0 _ _ _ (by omega) (Int.le_refl _) (hy _ h1 F1 (Or.inl ⟨hp, gs_done n1.1 n1.2 hs⟩))
end RM
/-- bits put in by two loops -/
noncomputable def or2 (n : Int) (q : Int → Int → Bool) (s : Int) : Int := upTo (fun a m => upTo (fun b m => bif q a b then mOr m (mShl 1 b) else m) 0 n m) 0 n s
theorem or2_tb {n : Int} {q : Int → Int → Bool} {s l : Int} (hn : 0 ≤ n) (hn2 : n ≤ 10) (l1 : 0 ≤ l) (l2 : l < 32) : tb (or2 n q s) l = true ↔ tb s l = true ∨ (l < n ∧ ∃ a, 0 ≤ a ∧ a < n ∧ q a l = true) := by
  have inner : ∀ a m, tb (upTo (fun b m => bif q a b then mOr m (mShl 1 b) else m) 0 n m) l = true ↔ tb m l = true ∨ (l < n ∧ q a l = true) := by
    intro a m
    refine upTo_inv (f := fun b m => bif q a b then mOr m (mShl 1 b) else m) (fun k m' => tb m' l = true ↔ tb m l = true ∨ (l < k ∧ q a l = true)) hn ⟨Or.inl, fun z => z.resolve_right (fun y => by omega)⟩ (fun b m' b1 b2 hm => ?_)
    cases e : q a b with
    | false =>
      simp only [cond_false]
      rw [hm]
      constructor
      · rintro (z | ⟨z1, z2⟩)
        · exact Or.inl z
        · exact Or.inr ⟨by omega, z2⟩
      · rintro (z | ⟨z1, z2⟩)
        · exact Or.inl z
        · refine Or.inr ⟨?_, z2⟩
          have : l ≠ b := fun y => by rw [y, e] at z2; cases z2
          omega
    | true =>
      simp only [cond_true]
      rw [tb_or1 ⟨b1, by omega⟩ ⟨l1, l2⟩, hm]
      constructor
      · rintro ((z | ⟨z1, z2⟩) | z)
        · exact Or.inl z
        · exact Or.inr ⟨by omega, z2⟩
        · exact Or.inr ⟨by omega, by rw [z]; exact e⟩
      · rintro (z | ⟨z1, z2⟩)
        · exact Or.inl (Or.inl z)
        · by_cases y : l = b
          · exact Or.inr y
          · exact Or.inl (Or.inr ⟨by omega, z2⟩)
  unfold or2
  refine upTo_inv (f := fun a m => upTo (fun b m => bif q a b then mOr m (mShl 1 b) else m) 0 n m) (fun k m' => tb m' l = true ↔ tb s l = true ∨ (l < n ∧ ∃ a, 0 ≤ a ∧ a < k ∧ q a l = true)) hn ⟨Or.inl, fun z => z.resolve_right (fun y => by obtain ⟨_, a, a1, a2, _⟩ := y; omega)⟩ (fun a m' a1 a2 hm => ?_)
  rw [inner, hm]
  constructor
  · rintro ((z | ⟨z1, b, b1, b2, b3⟩) | ⟨z1, z2⟩)
    · exact Or.inl z
    · exact Or.inr ⟨z1, b, b1, by omega, b3⟩
    · exact Or.inr ⟨z1, a, a1, by omega, z2⟩
  · rintro (z | ⟨z1, b, b1, b2, b3⟩)
    · exact Or.inl (Or.inl z)
    · by_cases y : b = a
      · subst y; exact Or.inr ⟨z1, b3⟩
      · exact Or.inl (Or.inr ⟨z1, b, b1, by omega, b3⟩)
theorem or2_InI {n : Int} {q : Int → Int → Bool} {s : Int} (hn : 0 ≤ n) (h : InI s) : InI (or2 n q s) :=
  upTo_inv (fun _ m => InI m) hn h (fun a m _ _ hm => upTo_inv (fun _ m => InI m) hn hm (fun b m' _ _ hm' => by cases q a b; exact hm'; exact InI_or _ _))
/-- one minute -/
noncomputable def fireF (u : Int) (g : mmH) (s : Int) : Int := or2 (g u 1) (fun a b => (tb s a && decide (g (u + 23 + a) b ≠ -1 ∧ g (u + 23 + a) b ≤ 1)) && decide (0 < g 87 b)) s
noncomputable def burnV (u : Int) (g : mmH) (l n : Int) : Int := upTo (fun _ s => fireF u g s) 0 n (mShl 1 l)
section BUA
variable {d : Nat} {h m0 : mmH} {Q : Int → mmH → Prop}
theorem pA_besides {s w : Int} (hT : Tn 5 1 h m0) (hy : Q (or2 (h 5 1) (fun a b => tb s a && decide (h (28 + a) b ≠ -1 ∧ h (28 + a) b ≤ w)) 0) h) : qC tFA (d + 1) k_Town_besides [5, s, w] h Q := by
  have n1 := hT.1.2.1.2.1
  refine qC_intro (TA5_Town_besides_0 _ _ _ _ _ _ _ ?_)
  refine upTo_go (P := fun a (b : Int) => ∀ w5 w6, qB tFA d k_Town_besides (h 0 0) (h 0 1) Q 1 [(3, 5), (1, s), (1, w), (1, b), (1, a), w5, w6] [] h) (f := fun a m => upTo (fun b m => bif tb s a && decide (h (28 + a) b ≠ -1 ∧ h (28 + a) b ≤ w) then mOr m (mShl 1 b) else m) 0 (h 5 1) m) 0 (h 5 1) 0 n1.1 (fun a m a1 a2 hp w5 w6 => ?_) (fun w5 w6 => TA5_Town_besides_1 _ _ _ _ _ _ _ _ _ _ _ ⟨fun _ => hy, fun c => absurd (Int.le_refl _) c⟩) _ _
  refine TA5_Town_besides_1 _ _ _ _ _ _ _ _ _ _ _ ⟨fun c => absurd c (by omega), fun _ => ?_⟩
  refine upTo_go (P := fun b (m : Int) => ∀ w6, qB tFA d k_Town_besides (h 0 0) (h 0 1) Q 2 [(3, 5), (1, s), (1, w), (1, m), (1, a), (1, b), w6] [] h) (f := fun b m => bif tb s a && decide (h (28 + a) b ≠ -1 ∧ h (28 + a) b ≤ w) then mOr m (mShl 1 b) else m) 0 (h 5 1) m n1.1 (fun b m b1 b2 hp2 w6 => ?_) (fun w6 => TA5_Town_besides_2 _ _ _ _ _ _ _ _ _ _ _ ⟨fun _ => by rw [mAdd_ok (a := a) (by omega) (by omega)]; exact hp _ _, fun c => absurd (Int.le_refl _) c⟩) _
  refine TA5_Town_besides_2 _ _ _ _ _ _ _ _ _ _ _ ⟨fun c => absurd c (by omega), fun _ => ?_⟩
  simp (disch := omega) only [mmD_iff, mmG_iff, Bool.and_eq_true, Bool.or_eq_true, Nat.beq_refl, true_and, and_true, Option.getD_none, Option.isNone_none, decide_eq_true_eq, lc_lt0, lc_gt0, lc_le0, lc_ge0, lc_eq0, lc_ne0, ite_true, ite_false, fc_tFA_9, fn_tFA_9, fc_tFB_9, fn_tFB_9, sh_9, wn_9, fc_tFA_50, fn_tFA_50, fc_tFB_50, fn_tFB_50, sh_50, wn_50, fc_tFA_20, fn_tFA_20, fc_tFB_20, fn_tFB_20, sh_20, wn_20, fc_tFA_61, fn_tFA_61, fc_tFB_61, fn_tFB_61, sh_61, wn_61, fc_tFA_27, fn_tFA_27, fc_tFB_27, fn_tFB_27, sh_27, wn_27, fc_tFA_68, fn_tFA_68, fc_tFB_68, fn_tFB_68, sh_68, wn_68, fc_tFA_91, fn_tFA_91, fc_tFB_91, fn_tFB_91, sh_91, wn_91]
  rw [mAdd_ok (a := b) (by omega) (by omega), Ne, bit_is a1 (by omega)]
  refine ⟨by omega, by omega, fun c => ?_, fun c => ⟨fun c2 => ?_, fun c2 => ⟨fun c3 => ?_, fun c3 => ?_⟩⟩⟩
  · rw [Bool.eq_false_iff.mpr c] at hp2; exact hp2 _
  · rw [Decidable.of_not_not c, decide_eq_false (by omega)] at hp2; exact hp2 _
  · rw [Decidable.of_not_not c, decide_eq_false (by omega)] at hp2; exact hp2 _
  · rw [Decidable.of_not_not c, decide_eq_true (by omega)] at hp2; exact hp2 _
theorem aA_burns {l n : Int} (hC : Cp 5 h m0) (hy : ∀ x, x = (if (0 ≤ l ∧ l < h 5 1) ∧ (0 ≤ n ∧ n ≤ 20) ∧ 0 < h 87 l then burnV 5 h l n else -1) → Q x h) : qC tFA (d + 2) k_c_burns [1, l, n] h Q := by
  have n1 := hC.T.1.2.1.2.1
  refine qC_intro (TA_c_burns_0 _ _ _ _ _ _ _ (pA5_isLot (fun x hx => ⟨fun c => hy _ (by rw [if_neg (fun q => hx.neg c q.1)]), fun c => ⟨fun c2 => hy _ (by rw [if_neg (by omega)]), fun c2 => ⟨fun c3 => hy _ (by rw [if_neg (by omega)]), fun c3 => ?_⟩⟩⟩)))
  obtain ⟨l1, l2⟩ := hx.pos c
  have ht := hC.N.2.2.2.1 l l1 l2
  simp only [Int.reduceAdd] at ht
  refine mmD_of (by omega) ⟨fun c4 => pA_holes n1.1 n1.2 ?_, fun c4 => hy _ (by rw [if_neg (by omega)])⟩
  refine upTo_run (P := fun i (s : Int) => qB tFA (d + 1) k_c_burns (h 0 0) (h 0 1) Q 3 [(3, 1), (1, l), (1, n), (1, holesV 5 h), (1, s), (1, i)] [] h) (f := fun _ s => fireF 5 h s) (fun _ s => InI s) 0 n (mShl 1 l) (by omega) (InI_shl _ _) (fun i s i1 i2 hI => ⟨or2_InI n1.1 hI, fun hp => ?_⟩) (TA_c_burns_3 _ _ _ _ _ _ _ _ _ _ ⟨fun _ => hy _ (by rw [if_pos ⟨⟨l1, l2⟩, by omega, by omega⟩]; rfl), fun c => absurd (Int.le_refl _) c⟩)
  refine TA_c_burns_3 _ _ _ _ _ _ _ _ _ _ ⟨fun c => absurd c (by omega), fun _ => pA_besides hC.T ?_⟩
  rw [mAdd_ok (a := i) (by omega) (by omega)]
  have e : mOr s (mAnd (or2 (h 5 1) (fun a b => tb s a && decide (h (28 + a) b ≠ -1 ∧ h (28 + a) b ≤ 1)) 0) (mXor (holesV 5 h) (-1))) = fireF 5 h s := by
    refine tb_ext (InI_or _ _) (or2_InI n1.1 hI) (fun k k1 k2 => ?_)
    rw [Bool.eq_iff_iff]
    unfold fireF
    rw [tb_or, tb_and, tb_not k1 k2, Bool.or_eq_true, Bool.and_eq_true, or2_tb n1.1 n1.2 k1 k2, or2_tb n1.1 n1.2 k1 k2, tb_zero]
    unfold holesV
    rw [setOf_tb n1.1 (by omega) k1 k2]
    simp only [Int.reduceAdd, Bool.and_eq_true, decide_eq_true_eq]
    constructor
    · rintro (z | ⟨z1, z2⟩)
      · exact Or.inl z
      · rcases z1 with z1 | ⟨z1, a, a1, a2, a3⟩
        · cases z1
        · have ht := hC.N.2.2.2.1 k k1 z1
          simp only [Int.reduceAdd] at ht
          refine Or.inr ⟨z1, a, a1, a2, a3, ?_⟩
          rw [decide_eq_true z1] at z2
          simp at z2
          omega
    · rintro (z | ⟨z1, a, a1, a2, a3, a4⟩)
      · exact Or.inl z
      · refine Or.inr ⟨Or.inr ⟨z1, a, a1, a2, a3⟩, ?_⟩
        rw [decide_eq_true z1, decide_eq_false (by omega)]
        rfl
  rw [e]
  exact hp
end BUA
section BUB
variable {d : Nat} {h m0 : mmH} {Q : Int → mmH → Prop}
theorem pB_besides {s w : Int} (hT : Tn 46 1 h m0) (hy : Q (or2 (h 46 1) (fun a b => tb s a && decide (h (69 + a) b ≠ -1 ∧ h (69 + a) b ≤ w)) 0) h) : qC tFB (d + 1) k_Town_besides [46, s, w] h Q := by
  have n1 := hT.1.2.1.2.1
  refine qC_intro (TB46_Town_besides_0 _ _ _ _ _ _ _ ?_)
  refine upTo_go (P := fun a (b : Int) => ∀ w5 w6, qB tFB d k_Town_besides (h 0 0) (h 0 1) Q 1 [(3, 46), (1, s), (1, w), (1, b), (1, a), w5, w6] [] h) (f := fun a m => upTo (fun b m => bif tb s a && decide (h (69 + a) b ≠ -1 ∧ h (69 + a) b ≤ w) then mOr m (mShl 1 b) else m) 0 (h 46 1) m) 0 (h 46 1) 0 n1.1 (fun a m a1 a2 hp w5 w6 => ?_) (fun w5 w6 => TB46_Town_besides_1 _ _ _ _ _ _ _ _ _ _ _ ⟨fun _ => hy, fun c => absurd (Int.le_refl _) c⟩) _ _
  refine TB46_Town_besides_1 _ _ _ _ _ _ _ _ _ _ _ ⟨fun c => absurd c (by omega), fun _ => ?_⟩
  refine upTo_go (P := fun b (m : Int) => ∀ w6, qB tFB d k_Town_besides (h 0 0) (h 0 1) Q 2 [(3, 46), (1, s), (1, w), (1, m), (1, a), (1, b), w6] [] h) (f := fun b m => bif tb s a && decide (h (69 + a) b ≠ -1 ∧ h (69 + a) b ≤ w) then mOr m (mShl 1 b) else m) 0 (h 46 1) m n1.1 (fun b m b1 b2 hp2 w6 => ?_) (fun w6 => TB46_Town_besides_2 _ _ _ _ _ _ _ _ _ _ _ ⟨fun _ => by rw [mAdd_ok (a := a) (by omega) (by omega)]; exact hp _ _, fun c => absurd (Int.le_refl _) c⟩) _
  refine TB46_Town_besides_2 _ _ _ _ _ _ _ _ _ _ _ ⟨fun c => absurd c (by omega), fun _ => ?_⟩
  simp (disch := omega) only [mmD_iff, mmG_iff, Bool.and_eq_true, Bool.or_eq_true, Nat.beq_refl, true_and, and_true, Option.getD_none, Option.isNone_none, decide_eq_true_eq, lc_lt0, lc_gt0, lc_le0, lc_ge0, lc_eq0, lc_ne0, ite_true, ite_false, fc_tFA_9, fn_tFA_9, fc_tFB_9, fn_tFB_9, sh_9, wn_9, fc_tFA_50, fn_tFA_50, fc_tFB_50, fn_tFB_50, sh_50, wn_50, fc_tFA_20, fn_tFA_20, fc_tFB_20, fn_tFB_20, sh_20, wn_20, fc_tFA_61, fn_tFA_61, fc_tFB_61, fn_tFB_61, sh_61, wn_61, fc_tFA_27, fn_tFA_27, fc_tFB_27, fn_tFB_27, sh_27, wn_27, fc_tFA_68, fn_tFA_68, fc_tFB_68, fn_tFB_68, sh_68, wn_68, fc_tFA_91, fn_tFA_91, fc_tFB_91, fn_tFB_91, sh_91, wn_91]
  rw [mAdd_ok (a := b) (by omega) (by omega), Ne, bit_is a1 (by omega)]
  refine ⟨by omega, by omega, fun c => ?_, fun c => ⟨fun c2 => ?_, fun c2 => ⟨fun c3 => ?_, fun c3 => ?_⟩⟩⟩
  · rw [Bool.eq_false_iff.mpr c] at hp2; exact hp2 _
  · rw [Decidable.of_not_not c, decide_eq_false (by omega)] at hp2; exact hp2 _
  · rw [Decidable.of_not_not c, decide_eq_false (by omega)] at hp2; exact hp2 _
  · rw [Decidable.of_not_not c, decide_eq_true (by omega)] at hp2; exact hp2 _
theorem aB_burns {l n : Int} (hC : Cp 46 h m0) (hy : ∀ x, x = (if (0 ≤ l ∧ l < h 46 1) ∧ (0 ≤ n ∧ n ≤ 20) ∧ 0 < h 87 l then burnV 46 h l n else -1) → Q x h) : qC tFB (d + 2) k_c_burns [1, l, n] h Q := by
  have n1 := hC.T.1.2.1.2.1
  refine qC_intro (TB_c_burns_0 _ _ _ _ _ _ _ (pB46_isLot (fun x hx => ⟨fun c => hy _ (by rw [if_neg (fun q => hx.neg c q.1)]), fun c => ⟨fun c2 => hy _ (by rw [if_neg (by omega)]), fun c2 => ⟨fun c3 => hy _ (by rw [if_neg (by omega)]), fun c3 => ?_⟩⟩⟩)))
  obtain ⟨l1, l2⟩ := hx.pos c
  have ht := hC.N.2.2.2.1 l l1 l2
  simp only [Int.reduceAdd] at ht
  refine mmD_of (by omega) ⟨fun c4 => pB_holes n1.1 n1.2 ?_, fun c4 => hy _ (by rw [if_neg (by omega)])⟩
  refine upTo_run (P := fun i (s : Int) => qB tFB (d + 1) k_c_burns (h 0 0) (h 0 1) Q 3 [(3, 1), (1, l), (1, n), (1, holesV 46 h), (1, s), (1, i)] [] h) (f := fun _ s => fireF 46 h s) (fun _ s => InI s) 0 n (mShl 1 l) (by omega) (InI_shl _ _) (fun i s i1 i2 hI => ⟨or2_InI n1.1 hI, fun hp => ?_⟩) (TB_c_burns_3 _ _ _ _ _ _ _ _ _ _ ⟨fun _ => hy _ (by rw [if_pos ⟨⟨l1, l2⟩, by omega, by omega⟩]; rfl), fun c => absurd (Int.le_refl _) c⟩)
  refine TB_c_burns_3 _ _ _ _ _ _ _ _ _ _ ⟨fun c => absurd c (by omega), fun _ => pB_besides hC.T ?_⟩
  rw [mAdd_ok (a := i) (by omega) (by omega)]
  have e : mOr s (mAnd (or2 (h 46 1) (fun a b => tb s a && decide (h (69 + a) b ≠ -1 ∧ h (69 + a) b ≤ 1)) 0) (mXor (holesV 46 h) (-1))) = fireF 46 h s := by
    refine tb_ext (InI_or _ _) (or2_InI n1.1 hI) (fun k k1 k2 => ?_)
    rw [Bool.eq_iff_iff]
    unfold fireF
    rw [tb_or, tb_and, tb_not k1 k2, Bool.or_eq_true, Bool.and_eq_true, or2_tb n1.1 n1.2 k1 k2, or2_tb n1.1 n1.2 k1 k2, tb_zero]
    unfold holesV
    rw [setOf_tb n1.1 (by omega) k1 k2]
    simp only [Int.reduceAdd, Bool.and_eq_true, decide_eq_true_eq]
    constructor
    · rintro (z | ⟨z1, z2⟩)
      · exact Or.inl z
      · rcases z1 with z1 | ⟨z1, a, a1, a2, a3⟩
        · cases z1
        · have ht := hC.N.2.2.2.1 k k1 z1
          simp only [Int.reduceAdd] at ht
          refine Or.inr ⟨z1, a, a1, a2, a3, ?_⟩
          rw [decide_eq_true z1] at z2
          simp at z2
          omega
    · rintro (z | ⟨z1, a, a1, a2, a3, a4⟩)
      · exact Or.inl z
      · refine Or.inr ⟨Or.inr ⟨z1, a, a1, a2, a3⟩, ?_⟩
        rw [decide_eq_true z1, decide_eq_false (by omega)]
        rfl
  rw [e]
  exact hp
end BUB
section BM
variable {d : Nat} {u : Int} {g h : mmH} {Q : Int → mmH → Prop}
theorem q_m_firesOn {l n : Int} (hC : Cp u g h) (hn : 0 ≤ n ∧ n ≤ 20) (hy : Q (burnV u g l n) h) : qC tFM (d + 3) k_m_firesOn [282, l, n] h Q := by
  obtain ⟨m0, m1, m2, m3, m4⟩ := hC.many
  obtain ⟨w0, w1, w2, w3, w4, w5, w6⟩ := hC.now
  have n1 := hC.T.1.2.1.2.1
  refine qC_intro (T_m_firesOn_0 _ _ _ _ _ _ _ ?_)
  refine upTo_go (P := fun i (s : Int) => ∀ w5 w6 w7, qB tFM (d + 2) k_m_firesOn (h 0 0) (h 0 1) Q 1 [(3, 282), (1, l), (1, n), (1, s), (1, i), w5, w6, w7] [] h) (f := fun _ s => fireF u g s) 0 n (mShl 1 l) hn.1 (fun i s i1 i2 hp w5 w6 w7 => ?_) (fun w5 w6 w7 => T_m_firesOn_1 _ _ _ _ _ _ _ _ _ _ _ _ ⟨fun _ => hy, fun c => absurd (Int.le_refl _) c⟩) _ _ _
  refine T_m_firesOn_1 _ _ _ _ _ _ _ _ _ _ _ _ ⟨fun c => absurd c (by omega), fun _ => ?_⟩
  refine upTo_go (P := fun a (m : Int) => ∀ w7, qB tFM (d + 2) k_m_firesOn (h 0 0) (h 0 1) Q 2 [(3, 282), (1, l), (1, n), (1, s), (1, i), (1, m), (1, a), w7] [] h) (f := fun a m => upTo (fun b m => bif (tb s a && decide (g (u + 23 + a) b ≠ -1 ∧ g (u + 23 + a) b ≤ 1)) && decide (0 < g 87 b) then mOr m (mShl 1 b) else m) 0 (g u 1) m) 0 (g u 1) s n1.1 (fun a m a1 a2 hp2 w7 => ?_) (fun w7 => T_m_firesOn_2 _ _ _ _ _ _ _ _ _ _ _ _ (q_m_lotMany ⟨fun _ => by rw [mAdd_ok (a := i) (by omega) (by omega)]; exact hp _ _ _, fun c => absurd (by omega) c⟩)) _
  refine T_m_firesOn_2 _ _ _ _ _ _ _ _ _ _ _ _ (q_m_lotMany ⟨fun c => absurd c (by omega), fun _ => ?_⟩)
  refine upTo_go (P := fun b (m : Int) => qB tFM (d + 2) k_m_firesOn (h 0 0) (h 0 1) Q 3 [(3, 282), (1, l), (1, n), (1, s), (1, i), (1, m), (1, a), (1, b)] [] h) (f := fun b m => bif (tb s a && decide (g (u + 23 + a) b ≠ -1 ∧ g (u + 23 + a) b ≤ 1)) && decide (0 < g 87 b) then mOr m (mShl 1 b) else m) 0 (g u 1) m n1.1 (fun b m b1 b2 hp3 => ?_) (T_m_firesOn_3 _ _ _ _ _ _ _ _ _ _ _ _ (q_m_lotMany ⟨fun _ => by rw [mAdd_ok (a := a) (by omega) (by omega)]; exact hp2 _, fun c => absurd (by omega) c⟩))
  have hg := hC.T.2.2.2.1 a b a1 a2 b1 b2
  simp only [Int.reduceMul] at hg
  refine T_m_firesOn_3 _ _ _ _ _ _ _ _ _ _ _ _ (q_m_lotMany ⟨fun c => absurd c (by omega), fun _ => ?_⟩)
  rw [mAdd_ok (a := b) (by omega) (by omega), Ne, bit_is a1 (by omega)]
  refine ⟨fun c => ?_, fun c => ?_⟩
  · rw [Bool.eq_false_iff.mpr c] at hp3; exact hp3
  · rw [Decidable.of_not_not c] at hp3
    rw [mMul_ok (by omega) (by omega), mAdd_ok (a := 100) (by omega) (by omega), mAdd_ok (a := 100 + 10 * a) (by omega) (by omega), hg.1]
    refine mmD_of (by omega) (q_m_isIn (fun z hz => ⟨fun c2 => ?_, fun c2 => q_m_tilesOf b1 (by omega) ?_⟩))
    · have := hz.neg c2
      rw [decide_eq_false (by omega)] at hp3; exact hp3
    · have := hz.pos c2
      rw [decide_eq_true (by omega)] at hp3
      rw [(w3 b b1 b2).1]
      refine ⟨fun c3 => ?_, fun c3 => ?_⟩
      · rw [decide_eq_false (by omega)] at hp3; exact hp3
      · rw [decide_eq_true (by omega)] at hp3; exact hp3
theorem b_burns {l n : Int} (hC : Cp u g h) (hy : ∀ x, x = (if (0 ≤ l ∧ l < g u 1) ∧ (0 ≤ n ∧ n ≤ 20) ∧ 0 < g 87 l then burnV u g l n else -1) → Q x h) : qC tFM (d + 4) k_m_burns [282, l, n] h Q := by
  obtain ⟨m0, m1, m2, m3, m4⟩ := hC.many
  obtain ⟨w0, w1, w2, w3, w4, w5, w6⟩ := hC.now
  have n1 := hC.T.1.2.1.2.1
  refine qC_intro (T_m_burns_0 _ _ _ _ _ _ _ (q_m_isLot (by omega) (by omega) (fun x hx => ⟨fun c => hy _ (by rw [if_neg (fun q => hx.neg c (by omega))]), fun c => q_m_isIn (fun z hz => ⟨fun c2 => hy _ (by rw [if_neg (fun q => hz.neg c2 (by omega))]), fun c2 => ?_⟩)⟩)))
  have hl := hx.pos c
  rw [m1] at hl
  have hn := hz.pos c2
  refine q_m_tilesOf hl.1 (by omega) ?_
  rw [(w3 l hl.1 hl.2).1]
  exact ⟨fun c3 => hy _ (by rw [if_neg (by omega)]), fun c3 => q_m_firesOn hC hn (hy _ (by rw [if_pos ⟨hl, hn, by omega⟩]))⟩
end BM
