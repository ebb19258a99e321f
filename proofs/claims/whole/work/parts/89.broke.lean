/-! ===== mm: who could break through, how likely ===== -/
theorem mOr_zero {a : Int} (h : InI a) : mOr a 0 = a := by
  obtain ⟨h1, h2⟩ := h
  rw [mOr_def, show Int32.ofInt 0 = 0 from rfl, Int32.or_zero]
  exact Int32.toInt_ofInt_of_le (by omega) (by omega)
theorem tilesFee {a b : Int} (h1 : 1 ≤ a) (h2 : a ≤ 20) (h3 : 0 ≤ b) (h4 : b ≤ 30) : 0 ≤ a * b ∧ a * b ≤ 600 := by
  refine ⟨Int.mul_nonneg (by omega) h3, ?_⟩
  have := Int.mul_le_mul h2 h4 h3 (by omega)
  omega
section BKA
variable {d : Nat} {h m0 : mmH} {Q : Int → mmH → Prop}
theorem pA_breaksAt {p l : Int} (p1 : 0 ≤ p) (p2 : p < 6) (l1 : 0 ≤ l) (l2 : l < 10) (f1 : 1 ≤ h 5 4) (f2 : h 5 4 ≤ 20) (t1 : 0 ≤ h 87 l) (t2 : h 87 l ≤ 30) (hy : ∀ x, YN x (0 < h 87 l ∧ h 5 4 * h 87 l < h (21 + p) 0) → Q x h) : qC tFA (d + 1) k_c_breaksAt [1, p, l] h Q := by
  have := tilesFee f1 f2 t1 t2
  refine qC_intro (TA_c_breaksAt_0 _ _ _ _ _ _ _ ?_)
  rw [mMul_ok (by omega) (by omega)]
  simp (disch := omega) only [mmD_iff, mmG_iff, Bool.and_eq_true, Bool.or_eq_true, Nat.beq_refl, true_and, and_true, Option.getD_none, Option.isNone_none, decide_eq_true_eq, lc_lt0, lc_gt0, lc_le0, lc_ge0, lc_eq0, lc_ne0, ite_true, ite_false, fc_tFA_9, fn_tFA_9, fc_tFB_9, fn_tFB_9, sh_9, wn_9, fc_tFA_50, fn_tFA_50, fc_tFB_50, fn_tFB_50, sh_50, wn_50, fc_tFA_20, fn_tFA_20, fc_tFB_20, fn_tFB_20, sh_20, wn_20, fc_tFA_61, fn_tFA_61, fc_tFB_61, fn_tFB_61, sh_61, wn_61, fc_tFA_27, fn_tFA_27, fc_tFB_27, fn_tFB_27, sh_27, wn_27, fc_tFA_68, fn_tFA_68, fc_tFB_68, fn_tFB_68, sh_68, wn_68, fc_tFA_91, fn_tFA_91, fc_tFB_91, fn_tFB_91, sh_91, wn_91]
  exact ⟨by omega, fun c => hy _ (YN.no (by omega)), fun c => ⟨by omega, by omega, by omega, fun c2 => hy _ (YN.no (by omega)), fun c2 => hy _ (YN.yes ⟨by omega, by omega⟩)⟩⟩
theorem pA_comesTo {l s : Int} (s1 : s ≤ 10) (e5 : h 96 5 = s) (hy : ∀ x, YN x (∃ k : Nat, (k : Int) < s ∧ h 99 k = l) → Q x h) : qC tFA (d + 1) k_Walk_comesTo [96, l] h Q := by
  refine qC_intro (TA_Walk_comesTo_0 _ _ _ _ _ _ ?_)
  have key : ∀ (m k : Nat), ((k : Int) + m = s ∨ s ≤ k) → (∀ j : Nat, j < k → (j : Int) < s → h 99 j ≠ l) → qB tFA d k_Walk_comesTo (h 0 0) (h 0 1) Q 1 [(3, 96), (1, l), (1, (k : Int))] [] h := by
    intro m
    induction m with
    | zero =>
      intro k hk hn
      refine TA_Walk_comesTo_1 _ _ _ _ _ _ _ ⟨fun _ => hy _ (YN.no ?_), fun c => absurd (by omega) c⟩
      rintro ⟨j, j1, j2⟩
      exact hn j (by omega) j1 j2
    | succ m ih =>
      intro k hk hn
      refine TA_Walk_comesTo_1 _ _ _ _ _ _ _ ⟨fun c => hy _ (YN.no ?_), fun c => mmD_of (by omega) ⟨fun c2 => ?_, fun c2 => hy _ (YN.yes ⟨k, by omega, Decidable.of_not_not c2⟩)⟩⟩
      · rintro ⟨j, j1, j2⟩
        exact hn j (by omega) j1 j2
      · rw [mAdd_ok (by omega) (by omega)]
        have := ih (k + 1) (by omega) (fun j j1 j2 => by
          by_cases q : j = k
          · rw [q]; exact c2
          · exact hn j (by omega) j2)
        rw [show (((k + 1 : Nat)) : Int) = (k : Int) + 1 by omega] at this
        exact this
  exact key s.toNat 0 (by omega) (fun j j1 => absurd j1 (by omega))
theorem pA_breakers {a b : Int} (hC : Cp 5 h m0) (a1 : 0 ≤ a) (a2 : a < h 5 1) (hy : ∀ h', Fr (Sw3 5) h h' → Q (brkS 5 h a b) h') : qC tFA (d + 6) k_c_breakers [1, a, b] h Q := by
  have n1 := hC.T.1.2.1.2.1
  have n3 := hC.T.1.2.1.2.2.1
  have n4 := hC.T.1.2.2.1
  have n8 := hC.N.2.2.2.1 a a1 a2
  simp only [Int.reduceAdd] at n8
  refine qC_intro (TA_c_breakers_0 _ _ _ _ _ _ _ ?_)
  have key : ∀ (m k : Nat) (w : mmV) (h1 : mmH), (k : Int) + m = h 5 3 → Fr (Sw3 5) h h1 → qB tFA (d + 5) k_c_breakers (h 0 0) (h 0 1) Q 1 [(3, 1), (1, a), (1, b), (1, setOf (k : Int) (brkP 5 h a b)), (1, (k : Int)), w] [] h1 := by
    intro m
    induction m with
    | zero =>
      intro k w h1 hk f1
      refine TA_c_breakers_1 _ _ _ _ _ _ _ _ _ _ ⟨fun _ => ?_, fun c => absurd (by rw [f1 5 3 (by unfold Sw3 Sct; omega)]; omega) c⟩
      rw [show (k : Int) = h 5 3 by omega]
      exact hy h1 f1
    | succ m ih =>
      intro k w h1 hk f1
      have p1 : 0 ≤ (k : Int) := by omega
      have p2 : (k : Int) < h 5 3 := by omega
      have e3 : h1 5 3 = h 5 3 := f1 5 3 (by unfold Sw3 Sct; omega)
      have e4 : h1 5 4 = h 5 4 := f1 5 4 (by unfold Sw3 Sct; omega)
      have e87 : h1 87 a = h 87 a := f1 87 a (by unfold Sw3 Sct; omega)
      have eh : h1 (21 + (k : Int)) 3 = h (21 + (k : Int)) 3 := f1 _ 3 (by unfold Sw3 Sct; omega)
      have em : h1 (21 + (k : Int)) 0 = h (21 + (k : Int)) 0 := f1 _ 0 (by unfold Sw3 Sct; omega)
      obtain ⟨hs, hg, -, -, -⟩ := Nw_at hC.N p1 p2
      have off : ∀ (w' : mmV) (h2 : mmH), Fr (Sw3 5) h h2 → brkP 5 h a b k = false → qB tFA (d + 5) k_c_breakers (h 0 0) (h 0 1) Q 1 [(3, 1), (1, a), (1, b), (1, setOf (k : Int) (brkP 5 h a b)), (1, mAdd (k : Int) 1), w'] [] h2 := by
        intro w' h2 f2 hb
        rw [mAdd_ok (by omega) (by omega)]
        have := ih (k + 1) w' h2 (by omega) f2
        rw [show (((k + 1 : Nat)) : Int) = (k : Int) + 1 by omega, setOf_succ _ p1, hb] at this
        exact this
      have off0 : ∀ (w' : mmV) (h2 : mmH), Fr (Sw3 5) h h2 → brkP 5 h a b k = false → qB tFA (d + 5) k_c_breakers (h 0 0) (h 0 1) Q 1 [(3, 1), (1, a), (1, b), (1, mOr (setOf (k : Int) (brkP 5 h a b)) 0), (1, mAdd (k : Int) 1), w'] [] h2 := by
        intro w' h2 f2 hb
        rw [mOr_zero (setOf_InI _ _ p1)]
        exact off w' h2 f2 hb
      have b3 : ∀ (s0 : Int) (h2 : mmH), Fr (Sw3 5) h h2 → YN s0 (h (21 + (k : Int)) 3 = b ∧ 0 < h 87 a ∧ h 5 4 * h 87 a < h (21 + (k : Int)) 0) → qB tFA (d + 5) k_c_breakers (h 0 0) (h 0 1) Q 3 [(3, 1), (1, a), (1, b), (1, setOf (k : Int) (brkP 5 h a b)), (1, (k : Int)), w] [(1, s0)] h2 := by
        intro s0 h2 f2 hs0
        refine TA_c_breakers_3 _ _ _ _ _ _ _ _ _ _ _ ⟨fun c => off _ h2 f2 (brkP_f (fun q => hs0.neg c ⟨q.1, cmP_tiles hC p1 p2 q.2.2, q.2.1⟩)), fun c => pA_lookG hC f2 p1 p2 (fun h3 f3 hW => ?_)⟩
        obtain ⟨r1, -, r3⟩ := hs0.pos c
        refine pA_seekG (n := h 5 1) (s := h 88 k) (t := h 89 k) (E := eP 5 h k) (w := wP 5 h k) hW.1 hW.2.1 hW.2.2.1 n1 hs hg (wOk_P 5 h k) (fun x y x1 x2 y1 y2 => (eB_Wk n1 hW x1 x2 y1 y2).symm) (fun y y1 y2 => by rw [(hW.2.2.2.2 y y1 y2).1]; rfl) (fun h4 f4 => ?_)
        have F4 : Fr (Sw3 5) h h4 := f3.tr (f4.mono (fun k i q => Or.inr (by omega)))
        refine ⟨fun hf => ⟨fun _ => off0 _ h4 F4 (brkP_f (fun q => q.2.2.1 hf)), fun c => absurd rfl c⟩, fun hf x4 x5 hp => ⟨fun c => absurd c (by omega), fun _ => ?_⟩⟩
        have hfin := wInv_fin (dis_inv n1.2 (wOk_P 5 h k) hg.1 hg.2) n1.2 hs.1 hs.2 hf
        refine pA_comesTo (by omega) x5 (fun z hz => ⟨fun c => off0 _ h4 F4 (brkP_f (fun q => hz.neg c ?_)), fun c => ?_⟩)
        · obtain ⟨-, j, j1, j2⟩ := q.2.2
          exact ⟨j, j1, by rw [hp j j1]; exact j2⟩
        · obtain ⟨j, j1, j2⟩ := hz.pos c
          rw [mAdd_ok (by omega) (by omega)]
          have := ih (k + 1) (1, s0) h4 (by omega) F4
          rw [show (((k + 1 : Nat)) : Int) = (k : Int) + 1 by omega, setOf_succ _ p1, brkP_t ⟨r1, r3, hf, j, j1, by rw [hp j j1] at j2; exact j2⟩] at this
          exact this
      refine TA_c_breakers_1 _ _ _ _ _ _ _ _ _ _ ?_
      simp (disch := omega) only [mmD_iff, mmG_iff, Bool.and_eq_true, Bool.or_eq_true, Nat.beq_refl, true_and, and_true, Option.getD_none, Option.isNone_none, decide_eq_true_eq, lc_lt0, lc_gt0, lc_le0, lc_ge0, lc_eq0, lc_ne0, ite_true, ite_false, fc_tFA_9, fn_tFA_9, fc_tFB_9, fn_tFB_9, sh_9, wn_9, fc_tFA_50, fn_tFA_50, fc_tFB_50, fn_tFB_50, sh_50, wn_50, fc_tFA_20, fn_tFA_20, fc_tFB_20, fn_tFB_20, sh_20, wn_20, fc_tFA_61, fn_tFA_61, fc_tFB_61, fn_tFB_61, sh_61, wn_61, fc_tFA_27, fn_tFA_27, fc_tFB_27, fn_tFB_27, sh_27, wn_27, fc_tFA_68, fn_tFA_68, fc_tFB_68, fn_tFB_68, sh_68, wn_68, fc_tFA_91, fn_tFA_91, fc_tFB_91, fn_tFB_91, sh_91, wn_91]
      refine ⟨fun c => absurd c (by omega), fun _ => ⟨by omega, by omega, fun c => b3 _ h1 f1 (YN.no (fun q => ?_)), fun c => pA_breaksAt p1 (by omega) a1 (by omega) (by omega) (by omega) (by omega) (by omega) (fun x hx => ⟨fun c2 => b3 _ h1 f1 (YN.no (fun q => hx.neg c2 ?_)), fun c2 => b3 _ h1 f1 (YN.yes ⟨by omega, ?_⟩)⟩)⟩⟩
      · omega
      · rw [e87, e4, em]; exact q.2
      · have := hx.pos c2
        rw [e87, e4, em] at this
        exact this
  exact key (h 5 3).toNat 0 (0, 0) h (by omega) Fr.rf
theorem pA_odds {s k : Int} (s1 : 0 ≤ s) (s2 : s < 1024) (k1 : 0 ≤ k) (k2 : k < 32) (hy : Q (if tb s k = true then mDiv 1000 (pc s) else 0) h) : qC tFA (d + 2) k_c_odds [s, k] h Q := by
  refine qC_intro (TA_c_odds_0 _ _ _ _ _ _ _ (pA_bitCount s1 s2 ⟨fun c => ?_, fun c => ⟨fun c2 => ?_, fun c2 => mmD_of (by omega) ?_⟩⟩))
  · rw [if_neg (fun q => by have := pc_pos s1 s2 q; omega)] at hy
    exact hy
  · rw [if_neg (fun q => c2 ((bit_is k1 k2).mpr q))] at hy
    exact hy
  · rw [if_pos ((bit_is k1 k2).mp (Decidable.of_not_not c2))] at hy
    exact hy
theorem aA_broke {a b k : Int} (hC : Cp 5 h m0) (hy : ∀ x h', Fr (Sw3 5) h h' → x = brokeV 5 h a b k → Q x h') : qC tFA (d + 7) k_c_broke [1, a, b, k] h Q := by
  have n1 := hC.T.1.2.1.2.1
  have n3 := hC.T.1.2.1.2.2.1
  have hb := setOf_lt (n := h 5 3) (p := brkP 5 h a b) (by omega) (by omega)
  refine qC_intro (TA_c_broke_0 _ _ _ _ _ _ _ _ (pA5_isLot (fun x hx => ⟨fun c => ?_, fun c => ⟨fun c2 => ?_, fun c2 => ⟨fun c3 => ?_, fun c3 => ?_⟩⟩⟩)))
  · exact hy _ h Fr.rf (by unfold brokeV; rw [if_pos (fun q => hx.neg c q.1)])
  · exact hy _ h Fr.rf (by unfold brokeV; rw [if_pos (by omega)])
  · have hl := hx.pos c
    have e0 : brokeV 5 h a b k = if k = -1 then pc (brkS 5 h a b) else if k = 20 then brkS 5 h a b else if 0 ≤ k ∧ k < h 5 3 then (if tb (brkS 5 h a b) k = true then mDiv 1000 (pc (brkS 5 h a b)) else 0) else -1 := by
      unfold brokeV; rw [if_neg (fun q => q ⟨hl, by omega⟩)]
    rw [e0] at hy
    refine ⟨fun c4 => ⟨fun c5 => pA_isPerson (fun y hyy => ⟨fun c6 => ?_, fun c6 => pA_breakers hC hl.1 hl.2 (fun h1 f1 => ?_)⟩), fun c5 => pA_breakers hC hl.1 hl.2 (fun h1 f1 => hy _ h1 f1 ?_)⟩, fun c4 => pA_breakers hC hl.1 hl.2 (fun h1 f1 => pA_bitCount hb.1 hb.2 (hy _ h1 f1 ?_))⟩
    · exact hy _ h Fr.rf (by rw [if_neg c4, if_neg c5, if_neg (hyy.neg c6)])
    · have q := hyy.pos c6
      exact pA_odds hb.1 hb.2 q.1 (by omega) (hy _ h1 f1 (by rw [if_neg c4, if_neg c5, if_pos q]))
    · rw [if_neg c4, if_pos (Decidable.of_not_not c5)]
    · rw [if_pos (Decidable.of_not_not c4)]
  · exact hy _ h Fr.rf (by unfold brokeV; rw [if_pos (by omega)])
end BKA
section BKB
variable {d : Nat} {h m0 : mmH} {Q : Int → mmH → Prop}
theorem pB_breaksAt {p l : Int} (p1 : 0 ≤ p) (p2 : p < 6) (l1 : 0 ≤ l) (l2 : l < 10) (f1 : 1 ≤ h 46 4) (f2 : h 46 4 ≤ 20) (t1 : 0 ≤ h 87 l) (t2 : h 87 l ≤ 30) (hy : ∀ x, YN x (0 < h 87 l ∧ h 46 4 * h 87 l < h (62 + p) 0) → Q x h) : qC tFB (d + 1) k_c_breaksAt [1, p, l] h Q := by
  have := tilesFee f1 f2 t1 t2
  refine qC_intro (TB_c_breaksAt_0 _ _ _ _ _ _ _ ?_)
  rw [mMul_ok (by omega) (by omega)]
  simp (disch := omega) only [mmD_iff, mmG_iff, Bool.and_eq_true, Bool.or_eq_true, Nat.beq_refl, true_and, and_true, Option.getD_none, Option.isNone_none, decide_eq_true_eq, lc_lt0, lc_gt0, lc_le0, lc_ge0, lc_eq0, lc_ne0, ite_true, ite_false, fc_tFA_9, fn_tFA_9, fc_tFB_9, fn_tFB_9, sh_9, wn_9, fc_tFA_50, fn_tFA_50, fc_tFB_50, fn_tFB_50, sh_50, wn_50, fc_tFA_20, fn_tFA_20, fc_tFB_20, fn_tFB_20, sh_20, wn_20, fc_tFA_61, fn_tFA_61, fc_tFB_61, fn_tFB_61, sh_61, wn_61, fc_tFA_27, fn_tFA_27, fc_tFB_27, fn_tFB_27, sh_27, wn_27, fc_tFA_68, fn_tFA_68, fc_tFB_68, fn_tFB_68, sh_68, wn_68, fc_tFA_91, fn_tFA_91, fc_tFB_91, fn_tFB_91, sh_91, wn_91]
  exact ⟨by omega, fun c => hy _ (YN.no (by omega)), fun c => ⟨by omega, by omega, by omega, fun c2 => hy _ (YN.no (by omega)), fun c2 => hy _ (YN.yes ⟨by omega, by omega⟩)⟩⟩
theorem pB_comesTo {l s : Int} (s1 : s ≤ 10) (e5 : h 96 5 = s) (hy : ∀ x, YN x (∃ k : Nat, (k : Int) < s ∧ h 99 k = l) → Q x h) : qC tFB (d + 1) k_Walk_comesTo [96, l] h Q := by
  refine qC_intro (TB_Walk_comesTo_0 _ _ _ _ _ _ ?_)
  have key : ∀ (m k : Nat), ((k : Int) + m = s ∨ s ≤ k) → (∀ j : Nat, j < k → (j : Int) < s → h 99 j ≠ l) → qB tFB d k_Walk_comesTo (h 0 0) (h 0 1) Q 1 [(3, 96), (1, l), (1, (k : Int))] [] h := by
    intro m
    induction m with
    | zero =>
      intro k hk hn
      refine TB_Walk_comesTo_1 _ _ _ _ _ _ _ ⟨fun _ => hy _ (YN.no ?_), fun c => absurd (by omega) c⟩
      rintro ⟨j, j1, j2⟩
      exact hn j (by omega) j1 j2
    | succ m ih =>
      intro k hk hn
      refine TB_Walk_comesTo_1 _ _ _ _ _ _ _ ⟨fun c => hy _ (YN.no ?_), fun c => mmD_of (by omega) ⟨fun c2 => ?_, fun c2 => hy _ (YN.yes ⟨k, by omega, Decidable.of_not_not c2⟩)⟩⟩
      · rintro ⟨j, j1, j2⟩
        exact hn j (by omega) j1 j2
      · rw [mAdd_ok (by omega) (by omega)]
        have := ih (k + 1) (by omega) (fun j j1 j2 => by
          by_cases q : j = k
          · rw [q]; exact c2
          · exact hn j (by omega) j2)
        rw [show (((k + 1 : Nat)) : Int) = (k : Int) + 1 by omega] at this
        exact this
  exact key s.toNat 0 (by omega) (fun j j1 => absurd j1 (by omega))
theorem pB_breakers {a b : Int} (hC : Cp 46 h m0) (a1 : 0 ≤ a) (a2 : a < h 46 1) (hy : ∀ h', Fr (Sw3 46) h h' → Q (brkS 46 h a b) h') : qC tFB (d + 6) k_c_breakers [1, a, b] h Q := by
  have n1 := hC.T.1.2.1.2.1
  have n3 := hC.T.1.2.1.2.2.1
  have n4 := hC.T.1.2.2.1
  have n8 := hC.N.2.2.2.1 a a1 a2
  simp only [Int.reduceAdd] at n8
  refine qC_intro (TB_c_breakers_0 _ _ _ _ _ _ _ ?_)
  have key : ∀ (m k : Nat) (w : mmV) (h1 : mmH), (k : Int) + m = h 46 3 → Fr (Sw3 46) h h1 → qB tFB (d + 5) k_c_breakers (h 0 0) (h 0 1) Q 1 [(3, 1), (1, a), (1, b), (1, setOf (k : Int) (brkP 46 h a b)), (1, (k : Int)), w] [] h1 := by
    intro m
    induction m with
    | zero =>
      intro k w h1 hk f1
      refine TB_c_breakers_1 _ _ _ _ _ _ _ _ _ _ ⟨fun _ => ?_, fun c => absurd (by rw [f1 46 3 (by unfold Sw3 Sct; omega)]; omega) c⟩
      rw [show (k : Int) = h 46 3 by omega]
      exact hy h1 f1
    | succ m ih =>
      intro k w h1 hk f1
      have p1 : 0 ≤ (k : Int) := by omega
      have p2 : (k : Int) < h 46 3 := by omega
      have e3 : h1 46 3 = h 46 3 := f1 46 3 (by unfold Sw3 Sct; omega)
      have e4 : h1 46 4 = h 46 4 := f1 46 4 (by unfold Sw3 Sct; omega)
      have e87 : h1 87 a = h 87 a := f1 87 a (by unfold Sw3 Sct; omega)
      have eh : h1 (62 + (k : Int)) 3 = h (62 + (k : Int)) 3 := f1 _ 3 (by unfold Sw3 Sct; omega)
      have em : h1 (62 + (k : Int)) 0 = h (62 + (k : Int)) 0 := f1 _ 0 (by unfold Sw3 Sct; omega)
      obtain ⟨hs, hg, -, -, -⟩ := Nw_at hC.N p1 p2
      have off : ∀ (w' : mmV) (h2 : mmH), Fr (Sw3 46) h h2 → brkP 46 h a b k = false → qB tFB (d + 5) k_c_breakers (h 0 0) (h 0 1) Q 1 [(3, 1), (1, a), (1, b), (1, setOf (k : Int) (brkP 46 h a b)), (1, mAdd (k : Int) 1), w'] [] h2 := by
        intro w' h2 f2 hb
        rw [mAdd_ok (by omega) (by omega)]
        have := ih (k + 1) w' h2 (by omega) f2
        rw [show (((k + 1 : Nat)) : Int) = (k : Int) + 1 by omega, setOf_succ _ p1, hb] at this
        exact this
      have off0 : ∀ (w' : mmV) (h2 : mmH), Fr (Sw3 46) h h2 → brkP 46 h a b k = false → qB tFB (d + 5) k_c_breakers (h 0 0) (h 0 1) Q 1 [(3, 1), (1, a), (1, b), (1, mOr (setOf (k : Int) (brkP 46 h a b)) 0), (1, mAdd (k : Int) 1), w'] [] h2 := by
        intro w' h2 f2 hb
        rw [mOr_zero (setOf_InI _ _ p1)]
        exact off w' h2 f2 hb
      have b3 : ∀ (s0 : Int) (h2 : mmH), Fr (Sw3 46) h h2 → YN s0 (h (62 + (k : Int)) 3 = b ∧ 0 < h 87 a ∧ h 46 4 * h 87 a < h (62 + (k : Int)) 0) → qB tFB (d + 5) k_c_breakers (h 0 0) (h 0 1) Q 3 [(3, 1), (1, a), (1, b), (1, setOf (k : Int) (brkP 46 h a b)), (1, (k : Int)), w] [(1, s0)] h2 := by
        intro s0 h2 f2 hs0
        refine TB_c_breakers_3 _ _ _ _ _ _ _ _ _ _ _ ⟨fun c => off _ h2 f2 (brkP_f (fun q => hs0.neg c ⟨q.1, cmP_tiles hC p1 p2 q.2.2, q.2.1⟩)), fun c => pB_lookG hC f2 p1 p2 (fun h3 f3 hW => ?_)⟩
        obtain ⟨r1, -, r3⟩ := hs0.pos c
        refine pB_seekG (n := h 46 1) (s := h 88 k) (t := h 89 k) (E := eP 46 h k) (w := wP 46 h k) hW.1 hW.2.1 hW.2.2.1 n1 hs hg (wOk_P 46 h k) (fun x y x1 x2 y1 y2 => (eB_Wk n1 hW x1 x2 y1 y2).symm) (fun y y1 y2 => by rw [(hW.2.2.2.2 y y1 y2).1]; rfl) (fun h4 f4 => ?_)
        have F4 : Fr (Sw3 46) h h4 := f3.tr (f4.mono (fun k i q => Or.inr (by omega)))
        refine ⟨fun hf => ⟨fun _ => off0 _ h4 F4 (brkP_f (fun q => q.2.2.1 hf)), fun c => absurd rfl c⟩, fun hf x4 x5 hp => ⟨fun c => absurd c (by omega), fun _ => ?_⟩⟩
        have hfin := wInv_fin (dis_inv n1.2 (wOk_P 46 h k) hg.1 hg.2) n1.2 hs.1 hs.2 hf
        refine pB_comesTo (by omega) x5 (fun z hz => ⟨fun c => off0 _ h4 F4 (brkP_f (fun q => hz.neg c ?_)), fun c => ?_⟩)
        · obtain ⟨-, j, j1, j2⟩ := q.2.2
          exact ⟨j, j1, by rw [hp j j1]; exact j2⟩
        · obtain ⟨j, j1, j2⟩ := hz.pos c
          rw [mAdd_ok (by omega) (by omega)]
          have := ih (k + 1) (1, s0) h4 (by omega) F4
          rw [show (((k + 1 : Nat)) : Int) = (k : Int) + 1 by omega, setOf_succ _ p1, brkP_t ⟨r1, r3, hf, j, j1, by rw [hp j j1] at j2; exact j2⟩] at this
          exact this
      refine TB_c_breakers_1 _ _ _ _ _ _ _ _ _ _ ?_
      simp (disch := omega) only [mmD_iff, mmG_iff, Bool.and_eq_true, Bool.or_eq_true, Nat.beq_refl, true_and, and_true, Option.getD_none, Option.isNone_none, decide_eq_true_eq, lc_lt0, lc_gt0, lc_le0, lc_ge0, lc_eq0, lc_ne0, ite_true, ite_false, fc_tFA_9, fn_tFA_9, fc_tFB_9, fn_tFB_9, sh_9, wn_9, fc_tFA_50, fn_tFA_50, fc_tFB_50, fn_tFB_50, sh_50, wn_50, fc_tFA_20, fn_tFA_20, fc_tFB_20, fn_tFB_20, sh_20, wn_20, fc_tFA_61, fn_tFA_61, fc_tFB_61, fn_tFB_61, sh_61, wn_61, fc_tFA_27, fn_tFA_27, fc_tFB_27, fn_tFB_27, sh_27, wn_27, fc_tFA_68, fn_tFA_68, fc_tFB_68, fn_tFB_68, sh_68, wn_68, fc_tFA_91, fn_tFA_91, fc_tFB_91, fn_tFB_91, sh_91, wn_91]
      refine ⟨fun c => absurd c (by omega), fun _ => ⟨by omega, by omega, fun c => b3 _ h1 f1 (YN.no (fun q => ?_)), fun c => pB_breaksAt p1 (by omega) a1 (by omega) (by omega) (by omega) (by omega) (by omega) (fun x hx => ⟨fun c2 => b3 _ h1 f1 (YN.no (fun q => hx.neg c2 ?_)), fun c2 => b3 _ h1 f1 (YN.yes ⟨by omega, ?_⟩)⟩)⟩⟩
      · omega
      · rw [e87, e4, em]; exact q.2
      · have := hx.pos c2
        rw [e87, e4, em] at this
        exact this
  exact key (h 46 3).toNat 0 (0, 0) h (by omega) Fr.rf
theorem pB_odds {s k : Int} (s1 : 0 ≤ s) (s2 : s < 1024) (k1 : 0 ≤ k) (k2 : k < 32) (hy : Q (if tb s k = true then mDiv 1000 (pc s) else 0) h) : qC tFB (d + 2) k_c_odds [s, k] h Q := by
  refine qC_intro (TB_c_odds_0 _ _ _ _ _ _ _ (pB_bitCount s1 s2 ⟨fun c => ?_, fun c => ⟨fun c2 => ?_, fun c2 => mmD_of (by omega) ?_⟩⟩))
  · rw [if_neg (fun q => by have := pc_pos s1 s2 q; omega)] at hy
    exact hy
  · rw [if_neg (fun q => c2 ((bit_is k1 k2).mpr q))] at hy
    exact hy
  · rw [if_pos ((bit_is k1 k2).mp (Decidable.of_not_not c2))] at hy
    exact hy
theorem aB_broke {a b k : Int} (hC : Cp 46 h m0) (hy : ∀ x h', Fr (Sw3 46) h h' → x = brokeV 46 h a b k → Q x h') : qC tFB (d + 7) k_c_broke [1, a, b, k] h Q := by
  have n1 := hC.T.1.2.1.2.1
  have n3 := hC.T.1.2.1.2.2.1
  have hb := setOf_lt (n := h 46 3) (p := brkP 46 h a b) (by omega) (by omega)
  refine qC_intro (TB_c_broke_0 _ _ _ _ _ _ _ _ (pB46_isLot (fun x hx => ⟨fun c => ?_, fun c => ⟨fun c2 => ?_, fun c2 => ⟨fun c3 => ?_, fun c3 => ?_⟩⟩⟩)))
  · exact hy _ h Fr.rf (by unfold brokeV; rw [if_pos (fun q => hx.neg c q.1)])
  · exact hy _ h Fr.rf (by unfold brokeV; rw [if_pos (by omega)])
  · have hl := hx.pos c
    have e0 : brokeV 46 h a b k = if k = -1 then pc (brkS 46 h a b) else if k = 20 then brkS 46 h a b else if 0 ≤ k ∧ k < h 46 3 then (if tb (brkS 46 h a b) k = true then mDiv 1000 (pc (brkS 46 h a b)) else 0) else -1 := by
      unfold brokeV; rw [if_neg (fun q => q ⟨hl, by omega⟩)]
    rw [e0] at hy
    refine ⟨fun c4 => ⟨fun c5 => pB_isPerson (fun y hyy => ⟨fun c6 => ?_, fun c6 => pB_breakers hC hl.1 hl.2 (fun h1 f1 => ?_)⟩), fun c5 => pB_breakers hC hl.1 hl.2 (fun h1 f1 => hy _ h1 f1 ?_)⟩, fun c4 => pB_breakers hC hl.1 hl.2 (fun h1 f1 => pB_bitCount hb.1 hb.2 (hy _ h1 f1 ?_))⟩
    · exact hy _ h Fr.rf (by rw [if_neg c4, if_neg c5, if_neg (hyy.neg c6)])
    · have q := hyy.pos c6
      exact pB_odds hb.1 hb.2 q.1 (by omega) (hy _ h1 f1 (by rw [if_neg c4, if_neg c5, if_pos q]))
    · rw [if_neg c4, if_pos (Decidable.of_not_not c5)]
    · rw [if_pos (Decidable.of_not_not c4)]
  · exact hy _ h Fr.rf (by unfold brokeV; rw [if_pos (by omega)])
end BKB
section BM
variable {d : Nat} {u : Int} {g h m : mmH} {Q : Int → mmH → Prop}
theorem q_m_breaks {p l : Int} (p1 : 0 ≤ p) (p2 : p < 6) (l1 : 0 ≤ l) (l2 : l < 10) (f1 : 1 ≤ h 318 1) (f2 : h 318 1 ≤ 20) (t1 : 0 ≤ h 329 (2 + l)) (t2 : h 329 (2 + l) ≤ 30) (hy : ∀ x, YN x (h 318 1 * h 329 (2 + l) < h 317 (36 + 6 * p + 0)) → Q x h) : qC tFM (d + 2) k_m_breaks [282, p, l] h Q := by
  have := tilesFee f1 f2 t1 t2
  refine qC_intro (T_m_breaks_0 _ _ _ _ _ _ _ (q_m_personOf p1 p2 (by omega) (by omega) (q_m_tilesOf l1 l2 ?_)))
  rw [mMul_ok (by omega) (by omega)]
  exact ⟨fun c => hy _ (YN.no (by omega)), fun c => hy _ (YN.yes (by omega))⟩
theorem q_m_comesTo {p l : Int} (hC : Cp u g m) (f0 : Fr Smw m h) (p1 : 0 ≤ p) (p2 : p < g u 3) (hy : ∀ x h', Fr Smw m h' → YN x (cmP u g p l) → Q x h') : qC tFM (d + 7) k_m_comesTo [282, p, l] h Q := by
  have n1 := hC.T.1.2.1.2.1
  have n3 := hC.T.1.2.1.2.2.1
  obtain ⟨hs, hg, hne, e12, e13⟩ := Nw_at hC.N p1 p2
  obtain ⟨hT0, hN0⟩ := Cp_Smw hC f0
  refine qC_intro (T_m_comesTo_0 _ _ _ _ _ _ _ (q_m_hasWay hC.uu hT0 hN0 p1 p2 (fun h1 f1 hW x hx => ⟨fun c => q_m_placeOf p1 (by omega) ?_, fun c => hy _ h1 (f0.tr f1) (YN.no (fun q => hx.neg (Decidable.of_not_not c) q.1))⟩)))
  have F1 : Fr Smw m h1 := f0.tr f1
  obtain ⟨hT1, hN1⟩ := Cp_Smw hC F1
  have hf := hx.pos c
  have g12 : h1 329 (12 + 2 * p) = g 88 p := by rw [F1 329 _ (by unfold Smw Smc Smt Spm; omega), e12]
  have g13 : h1 329 (12 + 2 * p + 1) = g 89 p := by rw [F1 329 _ (by unfold Smw Smc Smt Spm; omega), e13]
  have hs1 : h1 329 1 = g 86 1 ∧ 0 ≤ g 86 1 ∧ g 86 1 ≤ 9 := by
    rw [F1 329 1 (by unfold Smw Smc Smt Spm; omega)]
    exact hC.N.2.1
  have key : ∀ (j k : Nat), (k : Int) + j = (dP u g p (g 88 p)).2 → (∀ i : Nat, i < k → pP u g p (i + 1) ≠ l) → qB tFM (d + 6) k_m_comesTo (h 0 0) (h 0 1) Q 2 [(3, 282), (1, p), (1, l), (1, pP u g p k)] [] h1 := by
    intro j
    induction j with
    | zero =>
      intro k hk hn
      have hl := (pth_last n1.2 (wOk_P u g p) hg.1 hg.2 hs.1 hs.2 hf (k := k) (by show (k : Int) ≤ (dP u g p (g 88 p)).2; omega)).mpr (by show (k : Int) = (dP u g p (g 88 p)).2; omega)
      refine T_m_comesTo_2 _ _ _ _ _ _ _ _ (q_m_goalOf p1 (by omega) ?_)
      rw [g13]
      refine ⟨fun _ => hy _ h1 F1 (YN.no ?_), fun c => absurd hl c⟩
      rintro ⟨-, i, i1, i2⟩
      exact hn i (by omega) i2
    | succ j ih =>
      intro k hk hn
      have hk2 : (k : Int) ≤ (dis (g u 1) (eP u g p) (wP u g p) (g 89 p) (g 88 p)).2 := by show (k : Int) ≤ (dP u g p (g 88 p)).2; omega
      have hl := pth_last n1.2 (wOk_P u g p) hg.1 hg.2 hs.1 hs.2 hf (k := k) hk2
      obtain ⟨q1, q2, q3, q4⟩ := pth_ok n1.2 (wOk_P u g p) hg.1 hg.2 hs.1 hs.2 hf k hk2
      have hnl : pP u g p k ≠ g 89 p := fun q => by
        have e1 := hl.mp q
        have e2 : (dis (g u 1) (eP u g p) (wP u g p) (g 89 p) (g 88 p)).2 = (dP u g p (g 88 p)).2 := rfl
        omega
      refine T_m_comesTo_2 _ _ _ _ _ _ _ _ (q_m_goalOf p1 (by omega) ?_)
      rw [g13]
      refine ⟨fun c => absurd c hnl, fun _ => q_m_nextOf hT1 hs1 hg p1 p2 hW q1 q2 hnl q3 ?_⟩
      have e : nP u g p (pP u g p k) = pP u g p (k + 1) := rfl
      rw [e]
      refine ⟨fun c => ih (k + 1) (by omega) (fun i i1 => ?_), fun c => hy _ h1 F1 (YN.yes ⟨hf, k, by omega, Decidable.of_not_not c⟩)⟩
      by_cases q : i = k
      · rw [q]; exact c
      · exact hn i (by omega)
  rw [g12]
  have hfin := wInv_fin (dis_inv n1.2 (wOk_P u g p) hg.1 hg.2) n1.2 hs.1 hs.2 hf
  have e2 : (dis (g u 1) (eP u g p) (wP u g p) (g 89 p) (g 88 p)).2 = (dP u g p (g 88 p)).2 := rfl
  exact key (dP u g p (g 88 p)).2.toNat 0 (by omega) (fun i i1 => absurd i1 (by omega))
theorem b_broke {a b k : Int} (hC : Cp u g h) (hy : ∀ x h', Fr Smw h h' → x = brokeV u g a b k → Q x h') : qC tFM (d + 8) k_m_broke [282, a, b, k] h Q := by
  obtain ⟨m0, m1, m2, m3, m4⟩ := hC.many
  have n1 := hC.T.1.2.1.2.1
  have n3 := hC.T.1.2.1.2.2.1
  have n4 := hC.T.1.2.2.1
  have n5 := hC.T.1.2.2.2.2.2
  have hb := setOf_lt (n := g u 3) (p := brkP u g a b) (by omega) (by omega)
  refine qC_intro (T_m_broke_0 _ _ _ _ _ _ _ _ (q_m_isLot (by omega) (by omega) (fun x hx => ⟨fun c => ?_, fun c => q_m_isIn (fun y hyy => ⟨fun c2 => ?_, fun c2 => q_m_personMany (q_m_isIn (fun z hz => ?_))⟩)⟩)))
  · exact hy _ h Fr.rf (by unfold brokeV; rw [if_pos (fun q => hx.neg c (by omega))])
  · exact hy _ h Fr.rf (by unfold brokeV; rw [if_pos (fun q => hyy.neg c2 q.2)])
  have hl := hx.pos c
  have hh := hyy.pos c2
  rw [m1] at hl
  have n8 := hC.N.2.2.2.1 a hl.1 hl.2
  simp only [Int.reduceAdd, Int.zero_add] at n8
  have e0 : brokeV u g a b k = if k = -1 then pc (brkS u g a b) else if k = 20 then brkS u g a b else if 0 ≤ k ∧ k < g u 3 then (if tb (brkS u g a b) k = true then mDiv 1000 (pc (brkS u g a b)) else 0) else -1 := by
    unfold brokeV; rw [if_neg (fun q => q ⟨hl, hh⟩)]
  rw [e0] at hy
  unfold brkS at hy
  rw [m2, mSub_ok (by omega) (by omega)] at hz
  have go : (k = -1 ∨ k = 20 ∨ (0 ≤ k ∧ k < g u 3)) → qB tFM (d + 7) k_m_broke (h 0 0) (h 0 1) Q 3 [(3, 282), (1, a), (1, b), (1, k), (1, 0), (1, 0)] [] h := by
    intro hk
    have key : ∀ (j i : Nat) (h1 : mmH), (i : Int) + j = g u 3 → Fr Smw h h1 → qB tFM (d + 7) k_m_broke (h 0 0) (h 0 1) Q 3 [(3, 282), (1, a), (1, b), (1, k), (1, setOf (i : Int) (brkP u g a b)), (1, (i : Int))] [] h1 := by
      intro j
      induction j with
      | zero =>
        intro i h1 hi f1
        refine T_m_broke_3 _ _ _ _ _ _ _ _ _ _ (q_m_personMany ⟨fun _ => ?_, fun c => absurd (by rw [f1 313 7 (by unfold Smw Smc Smt Spm; omega), m2]; omega) c⟩)
        rw [show (i : Int) = g u 3 by omega]
        refine ⟨fun c4 => ⟨fun c5 => ?_, fun c5 => hy _ h1 f1 ?_⟩, fun c4 => q_m_bits hb.1 hb.2 (hy _ h1 f1 ?_)⟩
        · have hk2 : 0 ≤ k ∧ k < g u 3 := by omega
          rw [if_neg c4, if_neg c5, if_pos hk2] at hy
          have bi := bit_is (a := setOf (g u 3) (brkP u g a b)) hk2.1 (by omega : k < 32)
          refine ⟨fun c6 => hy _ h1 f1 ?_, fun c6 => q_m_bits hb.1 hb.2 (mmD_of ?_ (hy _ h1 f1 ?_))⟩
          · rw [if_neg (fun q => c6 (bi.mpr q))]
          · have := pc_pos hb.1 hb.2 (bi.mp (Decidable.of_not_not c6))
            omega
          · rw [if_pos (bi.mp (Decidable.of_not_not c6))]
        · rw [if_neg c4, if_pos (Decidable.of_not_not c5)]
        · rw [if_pos (Decidable.of_not_not c4)]
      | succ j ih =>
        intro i h1 hi f1
        have p1 : 0 ≤ (i : Int) := by omega
        have p2 : (i : Int) < g u 3 := by omega
        have hP := hC.T.2.2.1 (i : Int) p1 p2
        obtain ⟨hT1, hN1⟩ := Cp_Smw hC f1
        have f18 : h1 318 1 = g u 4 := by
          rw [f1 318 1 (by unfold Smw Smc Smt Spm; omega)]
          rcases n5 with q | q
          · exact q
          · omega
        have f17 : ∀ c, 0 ≤ c → c < 6 → h1 317 (36 + 6 * (i : Int) + c) = g (u + 16 + i) c := fun c c1 c2 => by
          rw [f1 317 _ (by unfold Smw Smc Smt Spm; omega)]
          have := hP.1 c c1 c2
          simp only [Int.mul_one] at this
          exact this
        have f29 : h1 329 (2 + a) = g 87 a := by
          rw [f1 329 _ (by unfold Smw Smc Smt Spm; omega)]
          exact n8.1
        have off : ∀ h2, Fr Smw h h2 → brkP u g a b i = false → qB tFM (d + 7) k_m_broke (h 0 0) (h 0 1) Q 3 [(3, 282), (1, a), (1, b), (1, k), (1, setOf (i : Int) (brkP u g a b)), (1, mAdd (i : Int) 1)] [] h2 := by
          intro h2 f2 hbr
          rw [mAdd_ok (by omega) (by omega)]
          have := ih (i + 1) h2 (by omega) f2
          rw [show (((i + 1 : Nat)) : Int) = (i : Int) + 1 by omega, setOf_succ _ p1, hbr] at this
          exact this
        refine T_m_broke_3 _ _ _ _ _ _ _ _ _ _ (q_m_personMany ⟨fun c => absurd c (by rw [f1 313 7 (by unfold Smw Smc Smt Spm; omega), m2]; omega), fun _ => q_m_personOf p1 (by omega) (by omega) (by omega) ?_⟩)
        rw [f17 3 (by omega) (by omega)]
        refine ⟨fun c => off h1 f1 (brkP_f (fun q => c q.1)), fun c => q_m_breaks p1 (by omega) hl.1 (by omega) (by omega) (by omega) (by omega) (by omega) (fun y hyb => ?_)⟩
        rw [f18, f29, f17 0 (by omega) (by omega)] at hyb
        refine ⟨fun c3 => off h1 f1 (brkP_f (fun q => hyb.neg c3 q.2.1)), fun c3 => q_m_comesTo hC f1 p1 p2 (fun w h2 f2 hw => ⟨fun c4 => off h2 f2 (brkP_f (fun q => hw.neg c4 q.2.2)), fun c4 => ?_⟩)⟩
        rw [mAdd_ok (by omega) (by omega)]
        have := ih (i + 1) h2 (by omega) f2
        rw [show (((i + 1 : Nat)) : Int) = (i : Int) + 1 by omega, setOf_succ _ p1, brkP_t ⟨Decidable.of_not_not c, hyb.pos c3, hw.pos c4⟩] at this
        exact this
    exact key (g u 3).toNat 0 h (by omega) Fr.rf
  refine ⟨fun c3 => go ?_, fun c3 => ⟨fun c4 => go (Or.inr (Or.inl c4)), fun c4 => hy _ h Fr.rf ?_⟩⟩
  · have := hz.pos c3; omega
  · have := hz.neg (Decidable.of_not_not c3)
    rw [if_neg (by omega), if_neg c4, if_neg (by omega)]
end BM
