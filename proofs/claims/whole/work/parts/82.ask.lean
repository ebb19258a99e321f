/-! ===== mm: what there is, asked on both sides ===== -/
theorem Cp.T {u : Int} {g h : mmH} (hC : Cp u g h) : Tn u 1 g h := hC.2.2.1
theorem Cp.N {u : Int} {g h : mmH} (hC : Cp u g h) : Nw 86 329 0 u g h := hC.2.2.2.1
def hasV (u : Int) (g : mmH) (a t n : Int) : Int :=
  if a = 0 then g u 0 else if a = 1 then g u 1 else if a = 2 then g u 2 else if a = 3 then g u 3 else if a = 4 then g (u + 33) 0 else if a = 5 then g u 4 else if a = 6 then g u 5
  else if a = 7 then g 86 0 else if a = 8 then g 86 1 else if a = 9 then t else if a = 10 then n else if a = 11 then g 86 2 else if a = 12 then g 1 7 else -1
noncomputable def tilesV (u : Int) (g : mmH) : Int := sumOf (g u 1) (fun l => g 87 l)
noncomputable def holesV (u : Int) (g : mmH) : Int := setOf (g u 1) (fun l => decide (g 87 l = 0))
theorem all_tb : ∀ n : Fin 11, ∀ l : Fin 32, tb ((2 : Int) ^ n.val - 1) (l.val : Int) = decide (l.val < n.val) := by decide +kernel
theorem upTo_skip {σ : Type} {f : Int → σ → σ} {k m m' : Int} {s : σ} (h1 : k ≤ m) (h2 : m ≤ m') (h : ∀ i a, m ≤ i → i < m' → f i a = a) : upTo f k m' s = upTo f k m s := by
  obtain ⟨j, hj⟩ := Int.eq_ofNat_of_zero_le (show 0 ≤ m' - m by omega)
  have : ∀ j : Nat, m + j ≤ m' → upTo f k (m + j) s = upTo f k m s := by
    intro j
    induction j with
    | zero => intro _; simp
    | succ j ih =>
      intro hj
      rw [show m + ((j + 1 : Nat) : Int) = (m + j) + 1 by omega, upTo_last f s (by omega), ih (by omega), h _ _ (by omega) (by omega)]
  rw [show m' = m + (j : Int) by omega]
  exact this j (by omega)
theorem setOf_lt {n : Int} {p : Int → Bool} (h0 : 0 ≤ n) (hn : n ≤ 10) : 0 ≤ setOf n p ∧ setOf n p < 1024 := by
  have hI := setOf_InI n p h0
  have key : ∀ x : Int, InI x → (∀ l, 0 ≤ l → l < 32 → tb x l = true → l < 10) → 0 ≤ x ∧ x < 1024 := by
    intro x hx hl
    have e : x = mAnd x 1023 := by
      refine tb_ext hx (InI_and _ _) (fun l l1 l2 => ?_)
      rw [tb_and]
      cases q : tb x l with
      | false => rfl
      | true =>
        have := all_tb ⟨10, by omega⟩ ⟨l.toNat, by omega⟩
        simp only [] at this
        rw [show ((l.toNat : Nat) : Int) = l by omega, show ((2 : Int) ^ 10 - 1) = 1023 from rfl] at this
        have hl2 := hl l l1 l2 q
        rw [this, decide_eq_true (by omega)]
        rfl
    have hb : ∀ l : Fin 32, 10 ≤ l.val → tb 1023 (l.val : Int) = false := by decide +kernel
    have e31 : tb x 31 = false := by
      cases q : tb x 31 with
      | false => rfl
      | true => exact absurd (hl 31 (by omega) (by omega) q) (by omega)
    have h0 : 0 ≤ x := by
      refine Classical.byContradiction (fun q => ?_)
      have hm : (Int32.ofInt x).toBitVec.msb = true := by
        rw [BitVec.msb_eq_toInt]
        show decide ((Int32.ofInt x).toInt < 0) = true
        rw [Int32.toInt_ofInt_of_le (by have := hx.1; omega) (by have := hx.2; omega)]
        simp
        omega
      unfold tb at e31
      rw [BitVec.msb_eq_getLsbD_last] at hm
      rw [show (31 : Int).toNat = 32 - 1 from rfl, hm] at e31
      cases e31
    have := hx.2
    rw [mAnd_nat h0 (by omega) (by omega) (by omega)] at e
    have h3 : x.toNat &&& (1023 : Int).toNat ≤ (1023 : Int).toNat := Nat.and_le_right
    rw [show (1023 : Int).toNat = 1023 from rfl] at h3 e
    omega
  refine key _ hI (fun l l1 l2 e => ?_)
  rw [setOf_tb h0 (by omega) l1 l2] at e
  simp only [Bool.and_eq_true, decide_eq_true_eq] at e
  omega
theorem tilesOf_all {n : Int} {t : Int → Int} (h0 : 0 ≤ n) (hn : n ≤ 10) : upTo (fun l s => bif tb (mShl 1 n - 1) l then mAdd s (t l) else s) 0 10 0 = sumOf n t := by
  have hb : ∀ l, 0 ≤ l → l < 10 → tb (mShl 1 n - 1) l = decide (l < n) := by
    intro l l1 l2
    rw [mShl1_eq h0 (by omega)]
    have := all_tb ⟨n.toNat, by omega⟩ ⟨l.toNat, by omega⟩
    simp only [] at this
    rw [show ((l.toNat : Nat) : Int) = l by omega] at this
    rw [this]
    by_cases q : l < n
    · rw [decide_eq_true q, decide_eq_true (by omega)]
    · rw [decide_eq_false q, decide_eq_false (by omega)]
  rw [upTo_skip h0 hn (fun i a i1 i2 => by rw [hb i (by omega) i2, decide_eq_false (by omega)]; rfl)]
  exact upTo_congr (fun i a i1 i2 => by rw [hb i i1 (by omega), decide_eq_true i2]; rfl)
def lotV (u : Int) (g : mmH) (l a t n : Int) : Int :=
  if a = 0 then g (u + 5 + l) 0 else if a = 1 then g (u + 5 + l) 1 else if a = 2 then g 87 l else if a = 3 then g (u + 5 + l) 3 else if a = 4 then g (u + 5 + l) 4 else if a = 5 then n else if a = 6 then t else -1
noncomputable def thereV (u : Int) (g : mmH) (l : Int) : Int := cntOf (g u 3) (fun p => decide (g 88 p = l))
noncomputable def fullV (u : Int) (g : mmH) (l : Int) : Int := if 0 < g (u + 5 + l) 3 ∧ g (u + 5 + l) 3 ≤ thereV u g l then 1 else 0
def persV (u : Int) (g : mmH) (p a n : Int) : Int :=
  if 0 ≤ a ∧ a < 4 then g (u + 16 + p) a else if a = 4 then g 88 p else if a = 5 then g 89 p else if a = 6 then n else -1
noncomputable def ledV (g : mmH) (p : Int) : Int := cntOf (g 86 2) (fun k => decide (g 94 k = p))
section ASA
variable {d : Nat} {h m0 : mmH} {Q : Int → mmH → Prop}
theorem aA_fault {a : Int} (hy : Q (if a = 0 then h 3 0 else if a = 1 then h 3 1 else -1) h) : qC tFA (d + 1) k_c_fault [1, a] h Q := by
  refine qC_intro (TA_c_fault_0 _ _ _ _ _ _ ⟨fun c => ⟨fun c2 => ?_, fun c2 => ?_⟩, fun c => ?_⟩)
  · rw [if_neg c, if_neg c2] at hy; exact hy
  · rw [if_neg c, if_pos (Decidable.of_not_not c2)] at hy; exact hy
  · rw [if_pos (Decidable.of_not_not c)] at hy; exact hy
theorem aA_has {a : Int} (hC : Cp 5 h m0) (hy : ∀ x, x = hasV 5 h a (tilesV 5 h) (pc (holesV 5 h)) → Q x h) : qC tFA (d + 2) k_c_has [1, a] h Q := by
  have n1 := hC.T.1.2.1.2.1
  refine qC_intro (TA_c_has_0 _ _ _ _ _ _ ⟨⟨fun c => hy _ ?_, fun c => hy _ ?_, fun c => hy _ ?_, fun c => hy _ ?_, fun c => hy _ ?_, fun c => hy _ ?_, fun c => hy _ ?_, fun c => hy _ ?_, fun c => hy _ ?_, fun c => pA_allLots n1.1 n1.2 (pA_tilesOf (hy _ ?_)), fun c => pA_holes n1.1 n1.2 (pA_bitCount (setOf_lt n1.1 n1.2).1 (setOf_lt n1.1 n1.2).2 (hy _ ?_)), fun c => hy _ ?_, fun c => hy _ ?_, trivial⟩, fun c => hy _ ?_⟩)
  · subst c; simp [hasV]
  · subst c; simp [hasV]
  · subst c; simp [hasV]
  · subst c; simp [hasV]
  · subst c; simp [hasV]
  · subst c; simp [hasV]
  · subst c; simp [hasV]
  · subst c; simp [hasV]
  · subst c; simp [hasV]
  · rw [tilesOf_all n1.1 n1.2]; subst c; simp [hasV, tilesV]
  · subst c; simp [hasV, holesV]
  · subst c; simp [hasV]
  · subst c; simp [hasV]
  · unfold hasV
    rw [if_neg (by omega), if_neg (by omega), if_neg (by omega), if_neg (by omega), if_neg (by omega), if_neg (by omega), if_neg (by omega), if_neg (by omega), if_neg (by omega), if_neg (by omega), if_neg (by omega), if_neg (by omega), if_neg (by omega)]
theorem aA_lot {l a : Int} (hC : Cp 5 h m0) (hy : ∀ x, x = (if 0 ≤ l ∧ l < h 5 1 then lotV 5 h l a (fullV 5 h l) (thereV 5 h l) else -1) → Q x h) : qC tFA (d + 3) k_c_lot [1, l, a] h Q := by
  have n1 := hC.T.1.2.1.2.1
  have n3 := hC.T.1.2.1.2.2.1
  refine qC_intro (TA_c_lot_0 _ _ _ _ _ _ _ (pA5_isLot (fun x hx => ⟨fun c => ?_, fun c => hy _ (by rw [if_neg (hx.neg (Decidable.of_not_not c))])⟩)))
  obtain ⟨l1, l2⟩ := hx.pos c
  rw [if_pos ⟨l1, l2⟩] at hy
  unfold fullV at hy
  simp only [Int.reduceAdd] at hy
  simp (disch := omega) only [mmD_iff, mmG_iff, Bool.and_eq_true, Bool.or_eq_true, Nat.beq_refl, true_and, and_true, Option.getD_none, Option.isNone_none, decide_eq_true_eq, lc_lt0, lc_gt0, lc_le0, lc_ge0, lc_eq0, lc_ne0, ite_true, ite_false, fc_tFA_9, fn_tFA_9, fc_tFB_9, fn_tFB_9, sh_9, wn_9, fc_tFA_50, fn_tFA_50, fc_tFB_50, fn_tFB_50, sh_50, wn_50, fc_tFA_20, fn_tFA_20, fc_tFB_20, fn_tFB_20, sh_20, wn_20, fc_tFA_61, fn_tFA_61, fc_tFB_61, fn_tFB_61, sh_61, wn_61, fc_tFA_27, fn_tFA_27, fc_tFB_27, fn_tFB_27, sh_27, wn_27, fc_tFA_68, fn_tFA_68, fc_tFB_68, fn_tFB_68, sh_68, wn_68, fc_tFA_91, fn_tFA_91, fc_tFB_91, fn_tFB_91, sh_91, wn_91]
  refine ⟨⟨fun c => ⟨by omega, by omega, hy _ ?_⟩, fun c => ⟨by omega, by omega, hy _ ?_⟩, fun c => ⟨by omega, hy _ ?_⟩, fun c => ⟨by omega, by omega, hy _ ?_⟩, fun c => ⟨by omega, by omega, hy _ ?_⟩, fun c => pA_guests n3.1 n3.2 (hy _ ?_), fun c => ?_⟩, fun c => hy _ ?_⟩
  · subst c; simp [lotV]
  · subst c; simp [lotV]
  · subst c; simp [lotV]
  · subst c; simp [lotV]
  · subst c; simp [lotV]
  · subst c; simp [lotV, thereV]
  · refine qC_intro (TA_c_isFull_0 _ _ _ _ _ _ ?_)
    simp (disch := omega) only [mmD_iff, mmG_iff, Bool.and_eq_true, Bool.or_eq_true, Nat.beq_refl, true_and, and_true, Option.getD_none, Option.isNone_none, decide_eq_true_eq, lc_lt0, lc_gt0, lc_le0, lc_ge0, lc_eq0, lc_ne0, ite_true, ite_false, fc_tFA_9, fn_tFA_9, fc_tFB_9, fn_tFB_9, sh_9, wn_9, fc_tFA_50, fn_tFA_50, fc_tFB_50, fn_tFB_50, sh_50, wn_50, fc_tFA_20, fn_tFA_20, fc_tFB_20, fn_tFB_20, sh_20, wn_20, fc_tFA_61, fn_tFA_61, fc_tFB_61, fn_tFB_61, sh_61, wn_61, fc_tFA_27, fn_tFA_27, fc_tFB_27, fn_tFB_27, sh_27, wn_27, fc_tFA_68, fn_tFA_68, fc_tFB_68, fn_tFB_68, sh_68, wn_68, fc_tFA_91, fn_tFA_91, fc_tFB_91, fn_tFB_91, sh_91, wn_91]
    refine ⟨by omega, by omega, fun c2 => ⟨fun _ => hy _ ?_, fun q => absurd trivial q⟩, fun c2 => pA_guests n3.1 n3.2 ⟨fun c3 => ⟨fun _ => hy _ ?_, fun q => absurd trivial q⟩, fun c3 => ⟨fun q => absurd q (by omega), fun _ => hy _ ?_⟩⟩⟩
    · rw [if_neg (by omega)]; subst c; simp [lotV]
    · rw [if_neg (by unfold thereV; omega)]; subst c; simp [lotV]
    · rw [if_pos (by unfold thereV; omega)]; subst c; simp [lotV]
  · unfold lotV
    rw [if_neg (by omega), if_neg (by omega), if_neg (by omega), if_neg (by omega), if_neg (by omega), if_neg (by omega), if_neg (by omega)]
theorem aA_gap {a b : Int} (hC : Cp 5 h m0) (hy : ∀ x, x = (if (0 ≤ a ∧ a < h 5 1) ∧ (0 ≤ b ∧ b < h 5 1) then h (28 + a) b else -1) → Q x h) : qC tFA (d + 3) k_c_gap [1, a, b] h Q := by
  refine qC_intro (TA_c_gap_0 _ _ _ _ _ _ _ (pA5_wideOf hC.T.1.2.1.2.1.2 (fun x hx => hy _ ?_)))
  rcases hx with ⟨q1, q2, q3⟩ | ⟨q1, q2⟩
  · rw [if_pos ⟨q1, q2⟩]; exact q3
  · rw [if_neg q2]; exact q1
theorem aA_person {p a : Int} (hC : Cp 5 h m0) (hy : ∀ x, x = (if 0 ≤ p ∧ p < h 5 3 then persV 5 h p a (ledV h p) else -1) → Q x h) : qC tFA (d + 2) k_c_person [1, p, a] h Q := by
  have n3 := hC.T.1.2.1.2.2.1
  have nl := hC.N.2.2.1
  refine qC_intro (TA_c_person_0 _ _ _ _ _ _ _ (pA_isPerson (fun x hx => ⟨fun c => ?_, fun c => hy _ (by rw [if_neg (hx.neg (Decidable.of_not_not c))])⟩)))
  obtain ⟨l1, l2⟩ := hx.pos c
  rw [if_pos ⟨l1, l2⟩] at hy
  simp (disch := omega) only [mmD_iff, mmG_iff, Bool.and_eq_true, Bool.or_eq_true, Nat.beq_refl, true_and, and_true, Option.getD_none, Option.isNone_none, decide_eq_true_eq, lc_lt0, lc_gt0, lc_le0, lc_ge0, lc_eq0, lc_ne0, ite_true, ite_false, fc_tFA_9, fn_tFA_9, fc_tFB_9, fn_tFB_9, sh_9, wn_9, fc_tFA_50, fn_tFA_50, fc_tFB_50, fn_tFB_50, sh_50, wn_50, fc_tFA_20, fn_tFA_20, fc_tFB_20, fn_tFB_20, sh_20, wn_20, fc_tFA_61, fn_tFA_61, fc_tFB_61, fn_tFB_61, sh_61, wn_61, fc_tFA_27, fn_tFA_27, fc_tFB_27, fn_tFB_27, sh_27, wn_27, fc_tFA_68, fn_tFA_68, fc_tFB_68, fn_tFB_68, sh_68, wn_68, fc_tFA_91, fn_tFA_91, fc_tFB_91, fn_tFB_91, sh_91, wn_91]
  refine ⟨⟨fun c => ⟨by omega, by omega, hy _ ?_⟩, fun c => ⟨by omega, by omega, hy _ ?_⟩, fun c => ⟨by omega, by omega, hy _ ?_⟩, fun c => ⟨by omega, by omega, hy _ ?_⟩, fun c => ⟨by omega, hy _ ?_⟩, fun c => ⟨by omega, hy _ ?_⟩, fun c => pA_ledTo nl.2.1 nl.2.2 (hy _ ?_)⟩, fun c => hy _ ?_⟩
  · subst c; simp [persV]
  · subst c; simp [persV]
  · subst c; simp [persV]
  · subst c; simp [persV]
  · subst c; simp [persV]
  · subst c; simp [persV]
  · subst c; simp [persV, ledV]
  · unfold persV
    rw [if_neg (by omega), if_neg (by omega), if_neg (by omega), if_neg (by omega)]
theorem aA_purse {a : Int} (hC : Cp 5 h m0) (hy : ∀ x, x = (if 0 ≤ a ∧ a < h 5 0 then h 90 a else -1000000000) → Q x h) : qC tFA (d + 2) k_c_purse [1, a] h Q := by
  have n0 := hC.T.1.2.1.1
  refine qC_intro (TA_c_purse_0 _ _ _ _ _ _ (pA_isOwner (fun x hx => ⟨fun c => hy _ (by rw [if_neg (hx.neg c)]), fun c => ?_⟩)))
  have := hx.pos c
  exact mmD_of (by omega) (hy _ (by rw [if_pos this]))
theorem aA_led {k w : Int} (hC : Cp 5 h m0) (hy : ∀ x, x = (if (0 ≤ k ∧ k < h 86 2) ∧ (0 ≤ w ∧ w ≤ 2) then h (92 + w) k else -1) → Q x h) : qC tFA (d + 1) k_c_led [1, k, w] h Q := by
  have nl := hC.N.2.2.1
  refine qC_intro (TA_c_led_0 _ _ _ _ _ _ _ ⟨fun c => hy _ (by rw [if_neg (by omega)]), fun c => ⟨fun c2 => hy _ (by rw [if_neg (by omega)]), fun c2 => ⟨fun c3 => hy _ (by rw [if_neg (by omega)]), fun c3 => ⟨fun c4 => ?_, fun c4 => hy _ (by rw [if_neg (by omega)])⟩⟩⟩⟩)
  simp (disch := omega) only [mmD_iff, mmG_iff, Bool.and_eq_true, Bool.or_eq_true, Nat.beq_refl, true_and, and_true, Option.getD_none, Option.isNone_none, decide_eq_true_eq, lc_lt0, lc_gt0, lc_le0, lc_ge0, lc_eq0, lc_ne0, ite_true, ite_false, fc_tFA_9, fn_tFA_9, fc_tFB_9, fn_tFB_9, sh_9, wn_9, fc_tFA_50, fn_tFA_50, fc_tFB_50, fn_tFB_50, sh_50, wn_50, fc_tFA_20, fn_tFA_20, fc_tFB_20, fn_tFB_20, sh_20, wn_20, fc_tFA_61, fn_tFA_61, fc_tFB_61, fn_tFB_61, sh_61, wn_61, fc_tFA_27, fn_tFA_27, fc_tFB_27, fn_tFB_27, sh_27, wn_27, fc_tFA_68, fn_tFA_68, fc_tFB_68, fn_tFB_68, sh_68, wn_68, fc_tFA_91, fn_tFA_91, fc_tFB_91, fn_tFB_91, sh_91, wn_91]
  exact ⟨by omega, by omega, hy _ (by rw [if_pos (by omega)])⟩
theorem aA_octet {k : Int} (hC : Cp 5 h m0) (hy : ∀ x, x = (if 0 ≤ k ∧ k < h 1 11 then h 101 k else -1) → Q x h) : qC tFA (d + 1) k_c_octet [1, k] h Q := by
  obtain ⟨-, -, -, -, -, -, -, ⟨⟨-, o1, o2⟩, -⟩, -⟩ := hC
  exact qC_intro (TA_c_octet_0 _ _ _ _ _ _ ⟨fun c => hy _ (by rw [if_neg (by omega)]), fun c => ⟨fun c2 => hy _ (by rw [if_neg (by omega)]), fun c2 => mmD_of (by omega) (hy _ (by rw [if_pos (by omega)]))⟩⟩)
end ASA
section ASB
variable {d : Nat} {h m0 : mmH} {Q : Int → mmH → Prop}
theorem aB_fault {a : Int} (hy : Q (if a = 0 then h 3 0 else if a = 1 then h 3 1 else -1) h) : qC tFB (d + 1) k_c_fault [1, a] h Q := by
  refine qC_intro (TB_c_fault_0 _ _ _ _ _ _ ⟨fun c => ⟨fun c2 => ?_, fun c2 => ?_⟩, fun c => ?_⟩)
  · rw [if_neg c, if_neg c2] at hy; exact hy
  · rw [if_neg c, if_pos (Decidable.of_not_not c2)] at hy; exact hy
  · rw [if_pos (Decidable.of_not_not c)] at hy; exact hy
theorem aB_has {a : Int} (hC : Cp 46 h m0) (hy : ∀ x, x = hasV 46 h a (tilesV 46 h) (pc (holesV 46 h)) → Q x h) : qC tFB (d + 2) k_c_has [1, a] h Q := by
  have n1 := hC.T.1.2.1.2.1
  refine qC_intro (TB_c_has_0 _ _ _ _ _ _ ⟨⟨fun c => hy _ ?_, fun c => hy _ ?_, fun c => hy _ ?_, fun c => hy _ ?_, fun c => hy _ ?_, fun c => hy _ ?_, fun c => hy _ ?_, fun c => hy _ ?_, fun c => hy _ ?_, fun c => pB_allLots n1.1 n1.2 (pB_tilesOf (hy _ ?_)), fun c => pB_holes n1.1 n1.2 (pB_bitCount (setOf_lt n1.1 n1.2).1 (setOf_lt n1.1 n1.2).2 (hy _ ?_)), fun c => hy _ ?_, fun c => hy _ ?_, trivial⟩, fun c => hy _ ?_⟩)
  · subst c; simp [hasV]
  · subst c; simp [hasV]
  · subst c; simp [hasV]
  · subst c; simp [hasV]
  · subst c; simp [hasV]
  · subst c; simp [hasV]
  · subst c; simp [hasV]
  · subst c; simp [hasV]
  · subst c; simp [hasV]
  · rw [tilesOf_all n1.1 n1.2]; subst c; simp [hasV, tilesV]
  · subst c; simp [hasV, holesV]
  · subst c; simp [hasV]
  · subst c; simp [hasV]
  · unfold hasV
    rw [if_neg (by omega), if_neg (by omega), if_neg (by omega), if_neg (by omega), if_neg (by omega), if_neg (by omega), if_neg (by omega), if_neg (by omega), if_neg (by omega), if_neg (by omega), if_neg (by omega), if_neg (by omega), if_neg (by omega)]
theorem aB_lot {l a : Int} (hC : Cp 46 h m0) (hy : ∀ x, x = (if 0 ≤ l ∧ l < h 46 1 then lotV 46 h l a (fullV 46 h l) (thereV 46 h l) else -1) → Q x h) : qC tFB (d + 3) k_c_lot [1, l, a] h Q := by
  have n1 := hC.T.1.2.1.2.1
  have n3 := hC.T.1.2.1.2.2.1
  refine qC_intro (TB_c_lot_0 _ _ _ _ _ _ _ (pB46_isLot (fun x hx => ⟨fun c => ?_, fun c => hy _ (by rw [if_neg (hx.neg (Decidable.of_not_not c))])⟩)))
  obtain ⟨l1, l2⟩ := hx.pos c
  rw [if_pos ⟨l1, l2⟩] at hy
  unfold fullV at hy
  simp only [Int.reduceAdd] at hy
  simp (disch := omega) only [mmD_iff, mmG_iff, Bool.and_eq_true, Bool.or_eq_true, Nat.beq_refl, true_and, and_true, Option.getD_none, Option.isNone_none, decide_eq_true_eq, lc_lt0, lc_gt0, lc_le0, lc_ge0, lc_eq0, lc_ne0, ite_true, ite_false, fc_tFA_9, fn_tFA_9, fc_tFB_9, fn_tFB_9, sh_9, wn_9, fc_tFA_50, fn_tFA_50, fc_tFB_50, fn_tFB_50, sh_50, wn_50, fc_tFA_20, fn_tFA_20, fc_tFB_20, fn_tFB_20, sh_20, wn_20, fc_tFA_61, fn_tFA_61, fc_tFB_61, fn_tFB_61, sh_61, wn_61, fc_tFA_27, fn_tFA_27, fc_tFB_27, fn_tFB_27, sh_27, wn_27, fc_tFA_68, fn_tFA_68, fc_tFB_68, fn_tFB_68, sh_68, wn_68, fc_tFA_91, fn_tFA_91, fc_tFB_91, fn_tFB_91, sh_91, wn_91]
  refine ⟨⟨fun c => ⟨by omega, by omega, hy _ ?_⟩, fun c => ⟨by omega, by omega, hy _ ?_⟩, fun c => ⟨by omega, hy _ ?_⟩, fun c => ⟨by omega, by omega, hy _ ?_⟩, fun c => ⟨by omega, by omega, hy _ ?_⟩, fun c => pB_guests n3.1 n3.2 (hy _ ?_), fun c => ?_⟩, fun c => hy _ ?_⟩
  · subst c; simp [lotV]
  · subst c; simp [lotV]
  · subst c; simp [lotV]
  · subst c; simp [lotV]
  · subst c; simp [lotV]
  · subst c; simp [lotV, thereV]
  · refine qC_intro (TB_c_isFull_0 _ _ _ _ _ _ ?_)
    simp (disch := omega) only [mmD_iff, mmG_iff, Bool.and_eq_true, Bool.or_eq_true, Nat.beq_refl, true_and, and_true, Option.getD_none, Option.isNone_none, decide_eq_true_eq, lc_lt0, lc_gt0, lc_le0, lc_ge0, lc_eq0, lc_ne0, ite_true, ite_false, fc_tFA_9, fn_tFA_9, fc_tFB_9, fn_tFB_9, sh_9, wn_9, fc_tFA_50, fn_tFA_50, fc_tFB_50, fn_tFB_50, sh_50, wn_50, fc_tFA_20, fn_tFA_20, fc_tFB_20, fn_tFB_20, sh_20, wn_20, fc_tFA_61, fn_tFA_61, fc_tFB_61, fn_tFB_61, sh_61, wn_61, fc_tFA_27, fn_tFA_27, fc_tFB_27, fn_tFB_27, sh_27, wn_27, fc_tFA_68, fn_tFA_68, fc_tFB_68, fn_tFB_68, sh_68, wn_68, fc_tFA_91, fn_tFA_91, fc_tFB_91, fn_tFB_91, sh_91, wn_91]
    refine ⟨by omega, by omega, fun c2 => ⟨fun _ => hy _ ?_, fun q => absurd trivial q⟩, fun c2 => pB_guests n3.1 n3.2 ⟨fun c3 => ⟨fun _ => hy _ ?_, fun q => absurd trivial q⟩, fun c3 => ⟨fun q => absurd q (by omega), fun _ => hy _ ?_⟩⟩⟩
    · rw [if_neg (by omega)]; subst c; simp [lotV]
    · rw [if_neg (by unfold thereV; omega)]; subst c; simp [lotV]
    · rw [if_pos (by unfold thereV; omega)]; subst c; simp [lotV]
  · unfold lotV
    rw [if_neg (by omega), if_neg (by omega), if_neg (by omega), if_neg (by omega), if_neg (by omega), if_neg (by omega), if_neg (by omega)]
theorem aB_gap {a b : Int} (hC : Cp 46 h m0) (hy : ∀ x, x = (if (0 ≤ a ∧ a < h 46 1) ∧ (0 ≤ b ∧ b < h 46 1) then h (69 + a) b else -1) → Q x h) : qC tFB (d + 3) k_c_gap [1, a, b] h Q := by
  refine qC_intro (TB_c_gap_0 _ _ _ _ _ _ _ (pB46_wideOf hC.T.1.2.1.2.1.2 (fun x hx => hy _ ?_)))
  rcases hx with ⟨q1, q2, q3⟩ | ⟨q1, q2⟩
  · rw [if_pos ⟨q1, q2⟩]; exact q3
  · rw [if_neg q2]; exact q1
theorem aB_person {p a : Int} (hC : Cp 46 h m0) (hy : ∀ x, x = (if 0 ≤ p ∧ p < h 46 3 then persV 46 h p a (ledV h p) else -1) → Q x h) : qC tFB (d + 2) k_c_person [1, p, a] h Q := by
  have n3 := hC.T.1.2.1.2.2.1
  have nl := hC.N.2.2.1
  refine qC_intro (TB_c_person_0 _ _ _ _ _ _ _ (pB_isPerson (fun x hx => ⟨fun c => ?_, fun c => hy _ (by rw [if_neg (hx.neg (Decidable.of_not_not c))])⟩)))
  obtain ⟨l1, l2⟩ := hx.pos c
  rw [if_pos ⟨l1, l2⟩] at hy
  simp (disch := omega) only [mmD_iff, mmG_iff, Bool.and_eq_true, Bool.or_eq_true, Nat.beq_refl, true_and, and_true, Option.getD_none, Option.isNone_none, decide_eq_true_eq, lc_lt0, lc_gt0, lc_le0, lc_ge0, lc_eq0, lc_ne0, ite_true, ite_false, fc_tFA_9, fn_tFA_9, fc_tFB_9, fn_tFB_9, sh_9, wn_9, fc_tFA_50, fn_tFA_50, fc_tFB_50, fn_tFB_50, sh_50, wn_50, fc_tFA_20, fn_tFA_20, fc_tFB_20, fn_tFB_20, sh_20, wn_20, fc_tFA_61, fn_tFA_61, fc_tFB_61, fn_tFB_61, sh_61, wn_61, fc_tFA_27, fn_tFA_27, fc_tFB_27, fn_tFB_27, sh_27, wn_27, fc_tFA_68, fn_tFA_68, fc_tFB_68, fn_tFB_68, sh_68, wn_68, fc_tFA_91, fn_tFA_91, fc_tFB_91, fn_tFB_91, sh_91, wn_91]
  refine ⟨⟨fun c => ⟨by omega, by omega, hy _ ?_⟩, fun c => ⟨by omega, by omega, hy _ ?_⟩, fun c => ⟨by omega, by omega, hy _ ?_⟩, fun c => ⟨by omega, by omega, hy _ ?_⟩, fun c => ⟨by omega, hy _ ?_⟩, fun c => ⟨by omega, hy _ ?_⟩, fun c => pB_ledTo nl.2.1 nl.2.2 (hy _ ?_)⟩, fun c => hy _ ?_⟩
  · subst c; simp [persV]
  · subst c; simp [persV]
  · subst c; simp [persV]
  · subst c; simp [persV]
  · subst c; simp [persV]
  · subst c; simp [persV]
  · subst c; simp [persV, ledV]
  · unfold persV
    rw [if_neg (by omega), if_neg (by omega), if_neg (by omega), if_neg (by omega)]
theorem aB_purse {a : Int} (hC : Cp 46 h m0) (hy : ∀ x, x = (if 0 ≤ a ∧ a < h 46 0 then h 90 a else -1000000000) → Q x h) : qC tFB (d + 2) k_c_purse [1, a] h Q := by
  have n0 := hC.T.1.2.1.1
  refine qC_intro (TB_c_purse_0 _ _ _ _ _ _ (pB_isOwner (fun x hx => ⟨fun c => hy _ (by rw [if_neg (hx.neg c)]), fun c => ?_⟩)))
  have := hx.pos c
  exact mmD_of (by omega) (hy _ (by rw [if_pos this]))
theorem aB_led {k w : Int} (hC : Cp 46 h m0) (hy : ∀ x, x = (if (0 ≤ k ∧ k < h 86 2) ∧ (0 ≤ w ∧ w ≤ 2) then h (92 + w) k else -1) → Q x h) : qC tFB (d + 1) k_c_led [1, k, w] h Q := by
  have nl := hC.N.2.2.1
  refine qC_intro (TB_c_led_0 _ _ _ _ _ _ _ ⟨fun c => hy _ (by rw [if_neg (by omega)]), fun c => ⟨fun c2 => hy _ (by rw [if_neg (by omega)]), fun c2 => ⟨fun c3 => hy _ (by rw [if_neg (by omega)]), fun c3 => ⟨fun c4 => ?_, fun c4 => hy _ (by rw [if_neg (by omega)])⟩⟩⟩⟩)
  simp (disch := omega) only [mmD_iff, mmG_iff, Bool.and_eq_true, Bool.or_eq_true, Nat.beq_refl, true_and, and_true, Option.getD_none, Option.isNone_none, decide_eq_true_eq, lc_lt0, lc_gt0, lc_le0, lc_ge0, lc_eq0, lc_ne0, ite_true, ite_false, fc_tFA_9, fn_tFA_9, fc_tFB_9, fn_tFB_9, sh_9, wn_9, fc_tFA_50, fn_tFA_50, fc_tFB_50, fn_tFB_50, sh_50, wn_50, fc_tFA_20, fn_tFA_20, fc_tFB_20, fn_tFB_20, sh_20, wn_20, fc_tFA_61, fn_tFA_61, fc_tFB_61, fn_tFB_61, sh_61, wn_61, fc_tFA_27, fn_tFA_27, fc_tFB_27, fn_tFB_27, sh_27, wn_27, fc_tFA_68, fn_tFA_68, fc_tFB_68, fn_tFB_68, sh_68, wn_68, fc_tFA_91, fn_tFA_91, fc_tFB_91, fn_tFB_91, sh_91, wn_91]
  exact ⟨by omega, by omega, hy _ (by rw [if_pos (by omega)])⟩
theorem aB_octet {k : Int} (hC : Cp 46 h m0) (hy : ∀ x, x = (if 0 ≤ k ∧ k < h 1 11 then h 101 k else -1) → Q x h) : qC tFB (d + 1) k_c_octet [1, k] h Q := by
  obtain ⟨-, -, -, -, -, -, -, ⟨⟨-, o1, o2⟩, -⟩, -⟩ := hC
  exact qC_intro (TB_c_octet_0 _ _ _ _ _ _ ⟨fun c => hy _ (by rw [if_neg (by omega)]), fun c => ⟨fun c2 => hy _ (by rw [if_neg (by omega)]), fun c2 => mmD_of (by omega) (hy _ (by rw [if_pos (by omega)]))⟩⟩)
end ASB
section BS
variable {d : Nat} {u : Int} {g h : mmH} {Q : Int → mmH → Prop}
theorem Cp.many (hC : Cp u g h) : h 313 5 = g u 0 ∧ h 313 6 = g u 1 ∧ h 313 7 = g u 3 ∧ h 313 8 = g u 2 ∧ h 313 9 = g (u + 33) 0 := by
  have := hC.T.1.1
  simp only [Int.reduceMul, Int.reduceAdd] at this
  exact this
theorem Cp.now (hC : Cp u g h) : (h 329 0 = g 86 0 ∧ 0 ≤ g 86 0 ∧ g 86 0 ≤ 999) ∧ (h 329 1 = g 86 1 ∧ 0 ≤ g 86 1 ∧ g 86 1 ≤ 9) ∧ (h 329 29 = g 86 2 ∧ 0 ≤ g 86 2 ∧ g 86 2 ≤ 60) ∧ (∀ l, 0 ≤ l → l < g u 1 → h 329 (2 + l) = g 87 l ∧ 0 ≤ g 87 l ∧ g 87 l ≤ 30) ∧ (∀ p, 0 ≤ p → p < g u 3 → h 329 (12 + 2 * p) = g 88 p ∧ h 329 (12 + 2 * p + 1) = g 89 p) ∧ (∀ q, 0 ≤ q → q < g u 0 → h 329 (24 + q) = g 90 q) ∧
    (∀ k, 0 ≤ k → k < g 86 2 → h 329 (30 + 3 * k) = g 92 k ∧ h 329 (30 + 3 * k + 1) = g 93 k ∧ h 329 (30 + 3 * k + 2) = g 94 k) := by
  have := hC.N
  unfold Nw at this
  simp only [Int.reduceAdd, Int.zero_add] at this
  obtain ⟨a, b, c, e, f, i, j⟩ := this
  exact ⟨a, b, c, e, fun p p1 p2 => ⟨(f p p1 p2).1, (f p p1 p2).2.1⟩, i, j⟩
theorem b_fault {a : Int} (hC : Cp u g h) (hy : Q (if a = 0 then g 3 0 else if a = 1 then g 3 1 else -1) h) : qC tFM (d + 1) k_m_fault [282, a] h Q := by
  obtain ⟨f1, f2⟩ := hC.2.2.2.2.2.2.2.2.1
  refine qC_intro (T_m_fault_0 _ _ _ _ _ _ ⟨fun c => ⟨fun c2 => ?_, fun c2 => ?_⟩, fun c => ?_⟩)
  · rw [if_neg c, if_neg c2] at hy; exact hy
  · rw [if_neg c, if_pos (Decidable.of_not_not c2)] at hy; rw [f2]; exact hy
  · rw [if_pos (Decidable.of_not_not c)] at hy; rw [f1]; exact hy
theorem b_has {a : Int} (hC : Cp u g h) (hy : ∀ x, x = hasV u g a (tilesV u g) (pc (holesV u g)) → Q x h) : qC tFM (d + 3) k_m_has [282, a] h Q := by
  obtain ⟨m0, m1, m2, m3, m4⟩ := hC.many
  obtain ⟨w0, w1, w2, w3, w4, w5, w6⟩ := hC.now
  have n1 := hC.T.1.2.1.2.1
  obtain ⟨-, -, nc, -, nr, nca⟩ := hC.T.1
  have ha := hC.2.2.2.2.1.1.1
  have hs : setOf (g u 1) (fun l => decide (h 329 (2 + l) = 0)) = holesV u g := setOf_congr (fun l l1 l2 => by rw [(w3 l l1 l2).1])
  have ht : sumOf (g u 1) (fun l => h 329 (2 + l)) = tilesV u g := sumOf_congr (fun l l1 l2 => (w3 l l1 l2).1)
  refine qC_intro (T_m_has_0 _ _ _ _ _ _ ⟨⟨fun c => q_m_ownerMany (hy _ ?_), fun c => q_m_lotMany (hy _ ?_), fun c => hy _ ?_, fun c => q_m_personMany (hy _ ?_), fun c => hy _ ?_, fun c => ⟨fun c2 => hy _ ?_, fun c2 => hy _ ?_⟩, fun c => hy _ ?_, fun c => hy _ ?_, fun c => hy _ ?_, fun c => q_m_tilesAll (by omega) (by omega) (hy _ ?_), fun c => q_m_holes (by omega) (by omega) (q_m_bits ?_ ?_ (hy _ ?_)), fun c => hy _ ?_, fun c => hy _ ?_, trivial⟩, fun c => hy _ ?_⟩)
  · subst c; simp [hasV, m0]
  · subst c; simp [hasV, m1]
  · subst c; simp [hasV, m3]
  · subst c; simp [hasV, m2]
  · subst c; simp [hasV, m4]
  · subst c
    have : h 318 1 = g u 4 := by omega
    simp [hasV, this]
  · subst c
    have : g u 4 = 5 := by have := Decidable.of_not_not c2; omega
    simp [hasV, this]
  · subst c; simp [hasV, nr]
  · subst c; simp [hasV, w0.1]
  · subst c; simp [hasV, w1.1]
  · rw [m1, ht]; subst c; simp [hasV]
  · rw [m1]; exact (setOf_lt n1.1 n1.2).1
  · rw [m1]; exact (setOf_lt n1.1 n1.2).2
  · rw [m1, hs]; subst c; simp [hasV]
  · subst c; simp [hasV, w2.1]
  · subst c; simp [hasV, ha]
  · unfold hasV
    rw [if_neg (by omega), if_neg (by omega), if_neg (by omega), if_neg (by omega), if_neg (by omega), if_neg (by omega), if_neg (by omega), if_neg (by omega), if_neg (by omega), if_neg (by omega), if_neg (by omega), if_neg (by omega), if_neg (by omega)]
theorem b_lot {l a : Int} (hC : Cp u g h) (hy : ∀ x, x = (if 0 ≤ l ∧ l < g u 1 then lotV u g l a (fullV u g l) (thereV u g l) else -1) → Q x h) : qC tFM (d + 3) k_m_lot [282, l, a] h Q := by
  obtain ⟨m0, m1, m2, m3, m4⟩ := hC.many
  obtain ⟨w0, w1, w2, w3, w4, w5, w6⟩ := hC.now
  have n1 := hC.T.1.2.1.2.1
  have n3 := hC.T.1.2.1.2.2.1
  refine qC_intro (T_m_lot_0 _ _ _ _ _ _ _ (q_m_isLot (by omega) (by omega) (fun x hx => ⟨fun c => ?_, fun c => hy _ (by rw [if_neg (fun q => hx.neg (Decidable.of_not_not c) (by omega))])⟩)))
  have l12 := hx.pos c
  rw [m1] at l12
  rw [if_pos l12] at hy
  have hl := hC.T.2.1 l l12.1 l12.2
  simp only [Int.reduceMul] at hl
  have hth : cntOf (h 313 7) (fun p => decide (h 329 (12 + 2 * p) = l)) = thereV u g l := by
    rw [m2]
    exact cntOf_congr (fun p p1 p2 => by rw [(w4 p p1 p2).1])
  unfold fullV at hy
  refine ⟨⟨fun c => q_m_ownerOf l12.1 (by omega) (hy _ ?_), fun c => q_m_heightOf l12.1 (by omega) (hy _ ?_), fun c => q_m_tilesOf l12.1 (by omega) (hy _ ?_), fun c => q_m_bedsOf l12.1 (by omega) (hy _ ?_), fun c => q_m_hasStork l12.1 (by omega) (fun y hy2 => ⟨fun c2 => hy _ ?_, fun c2 => hy _ ?_⟩), fun c => q_m_thereAt (by omega) (by omega) (hy _ ?_), fun c => q_m_bedsOf l12.1 (by omega) ⟨fun c2 => hy _ ?_, fun c2 => q_m_thereAt (by omega) (by omega) (q_m_bedsOf l12.1 (by omega) ⟨fun c3 => hy _ ?_, fun c3 => hy _ ?_⟩)⟩, trivial⟩, fun c => hy _ ?_⟩
  · subst c; simp [lotV, hl.1.1]
  · subst c; simp [lotV, hl.2.1.1]
  · subst c; simp [lotV, (w3 l l12.1 l12.2).1]
  · subst c; simp [lotV, hl.2.2.2.1.1]
  · have := hy2.neg c2
    subst c; simp [lotV]; omega
  · have := hy2.pos c2
    subst c; simp [lotV]; omega
  · rw [hth]; subst c; simp [lotV]
  · rw [hl.2.2.2.1.1] at c2
    rw [if_neg (by omega)]; subst c; simp [lotV]
  · rw [hl.2.2.2.1.1, hth] at c3
    rw [if_neg (by omega)]; subst c; simp [lotV]
  · rw [hl.2.2.2.1.1] at c2
    rw [hl.2.2.2.1.1, hth] at c3
    rw [if_pos (by omega)]; subst c; simp [lotV]
  · unfold lotV
    rw [if_neg (by omega), if_neg (by omega), if_neg (by omega), if_neg (by omega), if_neg (by omega), if_neg (by omega), if_neg (by omega)]
theorem b_gap {a b : Int} (hC : Cp u g h) (hy : ∀ x, x = (if (0 ≤ a ∧ a < g u 1) ∧ (0 ≤ b ∧ b < g u 1) then g (u + 23 + a) b else -1) → Q x h) : qC tFM (d + 3) k_m_gap [282, a, b] h Q := by
  obtain ⟨m0, m1, m2, m3, m4⟩ := hC.many
  have n1 := hC.T.1.2.1.2.1
  refine qC_intro (T_m_gap_0 _ _ _ _ _ _ _ (q_m_isLot (by omega) (by omega) (fun x hx => ⟨fun c => hy _ (by rw [if_neg (fun q => hx.neg c (by omega))]), fun c => q_m_isLot (by omega) (by omega) (fun z hz => ⟨fun c2 => hy _ (by rw [if_neg (fun q => hz.neg c2 (by omega))]), fun c2 => ?_⟩)⟩)))
  have q1 := hx.pos c
  have q2 := hz.pos c2
  rw [m1] at q1 q2
  have hg := hC.T.2.2.2.1 a b q1.1 q1.2 q2.1 q2.2
  simp only [Int.reduceMul] at hg
  rw [mMul_ok (by omega) (by omega), mAdd_ok (a := 100) (by omega) (by omega), mAdd_ok (a := 100 + 10 * a) (by omega) (by omega), hg.1, mSub_ok (by omega) (by omega)]
  exact mmD_of (by omega) (hy _ (by rw [if_pos ⟨q1, q2⟩]; omega))
theorem b_person {p a : Int} (hC : Cp u g h) (hy : ∀ x, x = (if 0 ≤ p ∧ p < g u 3 then persV u g p a (ledV g p) else -1) → Q x h) : qC tFM (d + 3) k_m_person [282, p, a] h Q := by
  obtain ⟨m0, m1, m2, m3, m4⟩ := hC.many
  obtain ⟨w0, w1, w2, w3, w4, w5, w6⟩ := hC.now
  have n3 := hC.T.1.2.1.2.2.1
  refine qC_intro (T_m_person_0 _ _ _ _ _ _ _ (q_m_isPerson (by omega) (by omega) (fun x hx => ⟨fun c => ?_, fun c => hy _ (by rw [if_neg (fun q => hx.neg (Decidable.of_not_not c) (by omega))])⟩)))
  have l12 := hx.pos c
  rw [m2] at l12
  rw [if_pos l12] at hy
  have hp := (hC.T.2.2.1 p l12.1 l12.2).1
  simp only [Int.reduceMul] at hp
  refine ⟨⟨fun c => q_m_personOf l12.1 (by omega) (by omega) (by omega) (hy _ ?_), fun c => q_m_personOf l12.1 (by omega) (by omega) (by omega) (hy _ ?_), fun c => q_m_personOf l12.1 (by omega) (by omega) (by omega) (hy _ ?_), fun c => q_m_personOf l12.1 (by omega) (by omega) (by omega) (hy _ ?_), fun c => q_m_placeOf l12.1 (by omega) (hy _ ?_), fun c => q_m_goalOf l12.1 (by omega) (hy _ ?_), fun c => q_m_ledTo (by omega) (by omega) (hy _ ?_), trivial⟩, fun c => hy _ ?_⟩
  · rw [hp a (by omega) (by omega)]; subst c; simp [persV]
  · rw [hp a (by omega) (by omega)]; subst c; simp [persV]
  · rw [hp a (by omega) (by omega)]; subst c; simp [persV]
  · rw [hp a (by omega) (by omega)]; subst c; simp [persV]
  · rw [(w4 p l12.1 l12.2).1]; subst c; simp [persV]
  · rw [(w4 p l12.1 l12.2).2]; subst c; simp [persV]
  · rw [w2.1, show cntOf (g 86 2) (fun k => decide (h 329 (30 + 3 * k + 2) = p)) = ledV g p from cntOf_congr (fun k k1 k2 => by rw [(w6 k k1 k2).2.2])]
    subst c; simp [persV]
  · unfold persV
    rw [if_neg (by omega), if_neg (by omega), if_neg (by omega), if_neg (by omega)]
theorem b_purse {a : Int} (hC : Cp u g h) (hy : ∀ x, x = (if 0 ≤ a ∧ a < g u 0 then g 90 a else -1000000000) → Q x h) : qC tFM (d + 2) k_m_purse [282, a] h Q := by
  obtain ⟨m0, m1, m2, m3, m4⟩ := hC.many
  obtain ⟨w0, w1, w2, w3, w4, w5, w6⟩ := hC.now
  have n0 := hC.T.1.2.1.1
  refine qC_intro (T_m_purse_0 _ _ _ _ _ _ (q_m_ownerMany (q_m_isIn (fun x hx => ?_))))
  rw [m0, mSub_ok (by omega) (by omega)] at hx
  refine ⟨fun c => hy _ (by rw [if_neg (fun q => hx.neg c (by omega))]), fun c => ?_⟩
  have := hx.pos c
  rw [mAdd_ok (a := 24) (by omega) (by omega), w5 a this.1 (by omega)]
  exact mmD_of (by omega) (hy _ (by rw [if_pos (by omega)]))
theorem b_led {k w : Int} (hC : Cp u g h) (hy : ∀ x, x = (if (0 ≤ k ∧ k < g 86 2) ∧ (0 ≤ w ∧ w ≤ 2) then g (92 + w) k else -1) → Q x h) : qC tFM (d + 2) k_m_led [282, k, w] h Q := by
  obtain ⟨w0, w1, w2, w3, w4, w5, w6⟩ := hC.now
  refine qC_intro (T_m_led_0 _ _ _ _ _ _ _ (q_m_isIn (fun x hx => ?_)))
  rw [w2.1, mSub_ok (by omega) (by omega)] at hx
  refine ⟨fun c => hy _ (by rw [if_neg (fun q => hx.neg c (by omega))]), fun c => q_m_isIn (fun z hz => ⟨fun c2 => hy _ (by rw [if_neg (fun q => hz.neg c2 (by omega))]), fun c2 => ?_⟩)⟩
  have q1 := hx.pos c
  have q2 := hz.pos c2
  have q3 := w6 k q1.1 (by omega)
  rw [mMul_ok (by omega) (by omega), mAdd_ok (a := 30) (by omega) (by omega), mAdd_ok (a := 30 + 3 * k) (by omega) (by omega)]
  refine mmD_of (by omega) (hy _ ?_)
  rw [if_pos (by omega)]
  have : w = 0 ∨ w = 1 ∨ w = 2 := by omega
  rcases this with rfl | rfl | rfl
  · rw [Int.add_zero]; exact q3.1
  · exact q3.2.1
  · exact q3.2.2
theorem b_octet {k : Int} (hC : Cp u g h) (hy : ∀ x, x = (if 0 ≤ k ∧ k < g 1 11 then g 101 k else -1) → Q x h) : qC tFM (d + 1) k_m_octet [282, k] h Q := by
  obtain ⟨-, -, -, -, -, -, -, ⟨⟨o0, o1, o2⟩, o3⟩, -⟩ := hC
  refine qC_intro (T_m_octet_0 _ _ _ _ _ _ ⟨fun c => hy _ (by rw [if_neg (by omega)]), fun c => ⟨fun c2 => hy _ (by rw [if_neg (by omega)]), fun c2 => mmD_of (by omega) (hy _ ?_)⟩⟩)
  rw [if_pos (by omega), o3 k (by omega) (by omega)]
theorem b_leaks (hC : Cp u g h) (hy : Q (setOf (g u 1) (fun l => decide (g 87 l < 3))) h) : qC tFM (d + 2) k_m_leaks [282] h Q := by
  obtain ⟨m0, m1, m2, m3, m4⟩ := hC.many
  obtain ⟨w0, w1, w2, w3, w4, w5, w6⟩ := hC.now
  have n1 := hC.T.1.2.1.2.1
  refine q_m_leaks (by omega) (by omega) ?_
  rw [m1, show setOf (g u 1) (fun l => decide (h 329 (2 + l) < 3)) = setOf (g u 1) (fun l => decide (g 87 l < 3)) from setOf_congr (fun l l1 l2 => by rw [(w3 l l1 l2).1])]
  exact hy
end BS
