/-! ===== mm: an image taken from the tape ===== -/
def imgN (u : Int) (g : mmH) : Int := 4 + g u 1 + 2 * g u 3 + 4 * g u 0
def isImg (u : Int) (g : mmH) : Prop := g 1 1 = imgN u g ∧ g 2 (imgN u g - 1) = chkF (g 2) (imgN u g - 1).toNat ∧ 256 * g 2 0 + g 2 1 ≤ 999 ∧ g 2 2 ≤ 9 ∧ (∀ l, 0 ≤ l → l < g u 1 → g 2 (3 + l) ≤ 30) ∧
  (∀ p, 0 ≤ p → p < g u 3 → (g 2 (3 + g u 1 + 2 * p) = g (u + 16 + p) 4 ∧ g 2 (3 + g u 1 + 2 * p + 1) = g (u + 16 + p) 5) ∨ (g 2 (3 + g u 1 + 2 * p) = g (u + 16 + p) 5 ∧ g 2 (3 + g u 1 + 2 * p + 1) = g (u + 16 + p) 4))
noncomputable def four (a b c e : Int) : Int := mOr (mOr (mOr (mShl a 24) (mShl b 16)) (mShl c 8)) e
/-- what is now, once an image is taken over -/
def onN (u : Int) (g g' : mmH) : Prop := Fr (fun k i => (86 ≤ k ∧ k ≤ 94) ∨ (k = 1 ∧ (i = 1 ∨ i = 7))) g g' ∧ g' 1 1 = 0 ∧ g' 1 7 = 0 ∧ g' 86 0 = 256 * g 2 0 + g 2 1 ∧ g' 86 1 = g 2 2 ∧ g' 86 2 = 0 ∧ (∀ l, 0 ≤ l → l < g u 1 → g' 87 l = g 2 (3 + l)) ∧
  (∀ p, 0 ≤ p → p < g u 3 → g' 88 p = g 2 (3 + g u 1 + 2 * p) ∧ g' 89 p = g 2 (3 + g u 1 + 2 * p + 1)) ∧ (∀ q, 0 ≤ q → q < g u 0 → g' 90 q = four (g 2 (3 + g u 1 + 2 * g u 3 + 4 * q)) (g 2 (3 + g u 1 + 2 * g u 3 + 4 * q + 1)) (g 2 (3 + g u 1 + 2 * g u 3 + 4 * q + 2)) (g 2 (3 + g u 1 + 2 * g u 3 + 4 * q + 3)))
def onP (u : Int) (g : mmH) (x : Int) (g' : mmH) : Prop := (¬ isImg u g ∧ x = 0 ∧ g' = mmS g 1 1 0) ∨ (isImg u g ∧ x = 1 ∧ onN u g g')
theorem four_ref {a b c e : Int} : mOr (mShl (mOr (mShl (mOr (mShl (mOr (mShl 0 8) a) 8) b) 8) c) 8) e = four a b c e := by
  unfold four
  refine tb_ext (InI_or _ _) (InI_or _ _) (fun l l1 l2 => ?_)
  have sh : ∀ x l', 0 ≤ l' → l' < 32 → tb (mShl x 8) l' = (decide (8 ≤ l') && tb x (l' - 8)) := fun x l' q1 q2 => tb_shl (by omega) (by omega) q1 q2
  rw [tb_or, tb_or, tb_or, tb_or, tb_shl (k := 24) (by omega) (by omega) l1 l2, tb_shl (k := 16) (by omega) (by omega) l1 l2, sh _ l l1 l2, sh c l l1 l2]
  by_cases q : 8 ≤ l
  · rw [decide_eq_true q, Bool.true_and, Bool.true_and, tb_or, sh _ (l - 8) (by omega) (by omega)]
    by_cases q2 : 16 ≤ l
    · rw [decide_eq_true (show (8 : Int) ≤ l - 8 by omega), decide_eq_true q2, Bool.true_and, Bool.true_and, tb_or, sh _ (l - 8 - 8) (by omega) (by omega), show l - 8 - 8 = l - 16 by omega]
      by_cases q3 : 24 ≤ l
      · rw [decide_eq_true (show (8 : Int) ≤ l - 16 by omega), decide_eq_true q3, Bool.true_and, Bool.true_and, tb_or, sh _ (l - 16 - 8) (by omega) (by omega), show l - 16 - 8 = l - 24 by omega, tb_zero, Bool.and_false, Bool.false_or]
      · rw [decide_eq_false (show ¬ (8 : Int) ≤ l - 16 by omega), decide_eq_false q3, Bool.false_and, Bool.false_and]
    · rw [decide_eq_false (show ¬ (8 : Int) ≤ l - 8 by omega), decide_eq_false q2, decide_eq_false (show ¬ (24 : Int) ≤ l by omega), Bool.false_and, Bool.false_and, Bool.false_and, Bool.false_or, Bool.false_or, Bool.false_or]
  · rw [decide_eq_false q, decide_eq_false (show ¬ (16 : Int) ≤ l by omega), decide_eq_false (show ¬ (24 : Int) ≤ l by omega), Bool.false_and, Bool.false_and, Bool.false_and, Bool.false_and, Bool.false_or, Bool.false_or, Bool.false_or, Bool.false_or]
section ONA
variable {d : Nat} {h m0 : mmH} {Q : Int → mmH → Prop}
set_option maxRecDepth 100000 in
theorem pA_check2 {n : Nat} (n2 : n ≤ 1600) (hb : ∀ i : Int, 0 ≤ i → i < n → 0 ≤ h 2 i ∧ h 2 i ≤ 255) (hy : Q (chkF (h 2) n) h) : qC tFA (d + 1) k_c_checkByte [2, (n : Int)] h Q := by
  refine qC_intro (TA2_c_checkByte_0 _ _ _ _ _ _ ?_)
  have key : ∀ (j k : Nat), k + j = n → qB tFA d k_c_checkByte (h 0 0) (h 0 1) Q 1 [(3, 2), (1, (n : Int)), (1, chkF (h 2) k), (1, (k : Int))] [] h := by
    intro j
    induction j with
    | zero =>
      intro k hk
      have e : k = n := by omega
      subst e
      exact TA2_c_checkByte_1 _ _ _ _ _ _ _ _ ⟨fun _ => hy, fun c => absurd (by omega) c⟩
    | succ j ih =>
      intro k hk
      have c := chkF_ok (h 2) k
      have b := hb k (by omega) (by omega)
      refine TA2_c_checkByte_1 _ _ _ _ _ _ _ _ ⟨fun c => absurd c (by omega), fun _ => ⟨fun c => absurd c (by omega), fun _ => mmD_of (by omega) ?_⟩⟩
      rw [mMul_ok (by omega) (by omega), mAdd_ok (a := 3 * chkF (h 2) k) (by omega) (by omega), mRem_nn (by omega) (by omega) (by omega) (by omega), mAdd_ok (a := (k : Int)) (by omega) (by omega), show (k : Int) + 1 = ((k + 1 : Nat) : Int) by omega]
      exact ih (k + 1) (by omega)
  exact key n 0 (by omega)
theorem pA_goesBetween {p a b : Int} (p1 : 0 ≤ p) (p2 : p < 6) (hy : ∀ x, YN x ((a = h (21 + p) 4 ∧ b = h (21 + p) 5) ∨ (a = h (21 + p) 5 ∧ b = h (21 + p) 4)) → Q x h) : qC tFA (d + 1) k_Town_goesBetween [5, p, a, b] h Q := by
  refine qC_intro (TA5_Town_goesBetween_0 _ _ _ _ _ _ _ _ ?_)
  simp (disch := omega) only [mmD_iff, mmG_iff, Bool.and_eq_true, Bool.or_eq_true, Nat.beq_refl, true_and, and_true, Option.getD_none, Option.isNone_none, decide_eq_true_eq, lc_lt0, lc_gt0, lc_le0, lc_ge0, lc_eq0, lc_ne0, ite_true, ite_false, fc_tFA_9, fn_tFA_9, fc_tFB_9, fn_tFB_9, sh_9, wn_9, fc_tFA_50, fn_tFA_50, fc_tFB_50, fn_tFB_50, sh_50, wn_50, fc_tFA_20, fn_tFA_20, fc_tFB_20, fn_tFB_20, sh_20, wn_20, fc_tFA_61, fn_tFA_61, fc_tFB_61, fn_tFB_61, sh_61, wn_61, fc_tFA_27, fn_tFA_27, fc_tFB_27, fn_tFB_27, sh_27, wn_27, fc_tFA_68, fn_tFA_68, fc_tFB_68, fn_tFB_68, sh_68, wn_68, fc_tFA_91, fn_tFA_91, fc_tFB_91, fn_tFB_91, sh_91, wn_91]
  have blk : ¬ (a = h (21 + p) 4 ∧ b = h (21 + p) 5) → qB tFA d k_Town_goesBetween (h 0 0) (h 0 1) Q 1 [(3, 5), (1, p), (1, a), (1, b), (1, h (21 + p) 4), (1, h (21 + p) 5)] [] h := fun hn =>
    TA5_Town_goesBetween_1 _ _ _ _ _ _ _ _ _ _ ⟨fun c => hy _ (YN.no (by omega)), fun c => ⟨fun c2 => hy _ (YN.no (by omega)), fun c2 => hy _ (YN.yes (by omega))⟩⟩
  exact ⟨by omega, by omega, by omega, by omega, fun c => blk (fun q => c q.1), fun c => ⟨fun c2 => hy _ (YN.yes (by omega)), fun c2 => blk (fun q => c2 q.2)⟩⟩
theorem pA_isImage (n0 : 0 ≤ h 5 0 ∧ h 5 0 ≤ 5) (n1 : 0 ≤ h 5 1 ∧ h 5 1 ≤ 10) (n3 : 0 ≤ h 5 3 ∧ h 5 3 ≤ 6) {n : Int} (hb : ∀ i : Int, 0 ≤ i → i < 1600 → 0 ≤ h 2 i ∧ h 2 i ≤ 255) (hy : ∀ x, YN x (isImg 5 (mmS h 1 1 n)) → Q x h) : qC tFA (d + 2) k_c_isImage [1, n] h Q := by
  have eN : imgN 5 (mmS h 1 1 n) = 4 + h 5 1 + 2 * h 5 3 + 4 * h 5 0 := by unfold imgN; rw [mmS_cell (by omega), mmS_cell (by omega), mmS_cell (by omega)]
  have e2 : mmS h 1 1 n 2 = h 2 := funext fun i => mmS_cell (by omega)
  have eL : mmS h 1 1 n 5 = h 5 := funext fun i => mmS_cell (by omega)
  have eP : ∀ p, 0 ≤ p → mmS h 1 1 n (5 + 16 + p) = h (5 + 16 + p) := fun p p0 => funext fun i => mmS_cell (by omega)
  have key : isImg 5 (mmS h 1 1 n) ↔ (n = 4 + h 5 1 + 2 * h 5 3 + 4 * h 5 0 ∧ h 2 (4 + h 5 1 + 2 * h 5 3 + 4 * h 5 0 - 1) = chkF (h 2) (4 + h 5 1 + 2 * h 5 3 + 4 * h 5 0 - 1).toNat ∧ 256 * h 2 0 + h 2 1 ≤ 999 ∧ h 2 2 ≤ 9 ∧ (∀ l, 0 ≤ l → l < h 5 1 → h 2 (3 + l) ≤ 30) ∧
      (∀ p, 0 ≤ p → p < h 5 3 → (h 2 (3 + h 5 1 + 2 * p) = h (5 + 16 + p) 4 ∧ h 2 (3 + h 5 1 + 2 * p + 1) = h (5 + 16 + p) 5) ∨ (h 2 (3 + h 5 1 + 2 * p) = h (5 + 16 + p) 5 ∧ h 2 (3 + h 5 1 + 2 * p + 1) = h (5 + 16 + p) 4))) := by
    unfold isImg
    rw [eN, e2, eL, mmS_slot, if_pos rfl]
    constructor
    · rintro ⟨a1, a2, a3, a4, a5, a6⟩
      exact ⟨a1, a2, a3, a4, a5, fun p p1 p2 => by have := a6 p p1 p2; rw [eP p p1] at this; exact this⟩
    · rintro ⟨a1, a2, a3, a4, a5, a6⟩
      exact ⟨a1, a2, a3, a4, a5, fun p p1 p2 => by have := a6 p p1 p2; rw [eP p p1]; exact this⟩
  refine qC_intro (TA_c_isImage_0 _ _ _ _ _ _ ?_)
  have due : mAdd (mAdd (mAdd (mAdd 3 (h 5 1)) (mMul 2 (h 5 3))) (mMul 4 (h 5 0))) 1 = 4 + h 5 1 + 2 * h 5 3 + 4 * h 5 0 := by
    rw [mMul_ok (a := 2) (by omega) (by omega), mMul_ok (a := 4) (by omega) (by omega), mAdd_ok (a := 3) (by omega) (by omega), mAdd_ok (b := 2 * h 5 3) (by omega) (by omega), mAdd_ok (b := 4 * h 5 0) (by omega) (by omega), mAdd_ok (b := 1) (by omega) (by omega)]
    omega
  rw [due, mmD_iff, mSub_ok (by omega) (by omega)]
  have b0 := hb 0 (by omega) (by omega)
  have b1 := hb 1 (by omega) (by omega)
  refine ⟨fun c => hy _ (YN.no (fun q => c (key.mp q).1)), fun c => ⟨by omega, ?_⟩⟩
  have c1 := Decidable.of_not_not c
  have en : 4 + h 5 1 + 2 * h 5 3 + 4 * h 5 0 - 1 = (((4 + h 5 1 + 2 * h 5 3 + 4 * h 5 0 - 1).toNat : Nat) : Int) := by omega
  have ck : ∀ Q', Q' (chkF (h 2) (4 + h 5 1 + 2 * h 5 3 + 4 * h 5 0 - 1).toNat) h → qC tFA (d + 1) k_c_checkByte [2, 4 + h 5 1 + 2 * h 5 3 + 4 * h 5 0 - 1] h Q' := fun Q' q => by
    rw [en]
    exact pA_check2 (by omega) (fun i i1 i2 => hb i i1 (by omega)) q
  refine ck _ ⟨fun c2 => ?_, fun c2 => hy _ (YN.no (fun q => c2 (key.mp q).2.1))⟩
  rw [mMul_ok (by omega) (by omega), mAdd_ok (by omega) (by omega)]
  refine ⟨fun c3 => hy _ (YN.no (fun q => by have := (key.mp q).2.2.1; omega)), fun c3 => ⟨fun c4 => ?_, fun c4 => hy _ (YN.no (fun q => c4 (key.mp q).2.2.2.1))⟩⟩
  have lp : ∀ (hl : ∀ l, 0 ≤ l → l < h 5 1 → h 2 (3 + l) ≤ 30) (j k : Nat) (w : mmV), (k : Int) + j = h 5 3 → (∀ p, 0 ≤ p → p < (k : Int) → (h 2 (3 + h 5 1 + 2 * p) = h (5 + 16 + p) 4 ∧ h 2 (3 + h 5 1 + 2 * p + 1) = h (5 + 16 + p) 5) ∨ (h 2 (3 + h 5 1 + 2 * p) = h (5 + 16 + p) 5 ∧ h 2 (3 + h 5 1 + 2 * p + 1) = h (5 + 16 + p) 4)) → qB tFA (d + 1) k_c_isImage (h 0 0) (h 0 1) Q 8 [(3, 1), (1, n), (1, 4 + h 5 1 + 2 * h 5 3 + 4 * h 5 0), (1, (k : Int)), w] [] h := by
    intro hl j
    induction j with
    | zero =>
      intro k w hk hp
      exact TA_c_isImage_8 _ _ _ _ _ _ _ _ _ ⟨fun _ => hy _ (YN.yes (key.mpr ⟨c1, c2, by omega, c4, hl, fun p p1 p2 => hp p p1 (by omega)⟩)), fun c => absurd (by omega) c⟩
    | succ j ih =>
      intro k w hk hp
      refine TA_c_isImage_8 _ _ _ _ _ _ _ _ _ ?_
      rw [mmD_iff, mmD_iff, mMul_ok (by omega) (by omega), mAdd_ok (a := 3) (by omega) (by omega), mAdd_ok (b := 2 * (k : Int)) (by omega) (by omega), mAdd_ok (a := 3 + h 5 1 + 2 * (k : Int)) (by omega) (by omega), mAdd_ok (a := (k : Int)) (by omega) (by omega)]
      refine ⟨fun c => absurd c (by omega), fun _ => ⟨by omega, by omega, pA_goesBetween (by omega) (by omega) (fun x hx => ⟨fun c5 => ?_, fun c5 => hy _ (YN.no (fun q => hx.neg (Decidable.of_not_not c5) ((key.mp q).2.2.2.2.2 k (by omega) (by omega))))⟩)⟩⟩
      rw [show (k : Int) + 1 = ((k + 1 : Nat) : Int) by omega]
      refine ih (k + 1) _ (by omega) (fun p p1 p2 => ?_)
      by_cases e : p = k
      · rw [e]; exact hx.pos c5
      · exact hp p p1 (by omega)
  have ll : ∀ (j k : Nat), (k : Int) + j = h 5 1 → (∀ l, 0 ≤ l → l < (k : Int) → h 2 (3 + l) ≤ 30) → qB tFA (d + 1) k_c_isImage (h 0 0) (h 0 1) Q 5 [(3, 1), (1, n), (1, 4 + h 5 1 + 2 * h 5 3 + 4 * h 5 0), (1, (k : Int)), (0, 0)] [] h := by
    intro j
    induction j with
    | zero =>
      intro k hk hl
      exact TA_c_isImage_5 _ _ _ _ _ _ _ _ ⟨fun _ => lp (fun l l1 l2 => hl l l1 (by omega)) (h 5 3).toNat 0 _ (by omega) (fun p p1 p2 => absurd p2 (by omega)), fun c => absurd (by omega) c⟩
    | succ j ih =>
      intro k hk hl
      refine TA_c_isImage_5 _ _ _ _ _ _ _ _ ?_
      rw [mmD_iff, mAdd_ok (a := 3) (by omega) (by omega), mAdd_ok (a := (k : Int)) (by omega) (by omega)]
      refine ⟨fun c => absurd c (by omega), fun _ => ⟨by omega, fun c5 => ?_, fun c5 => hy _ (YN.no (fun q => c5 ((key.mp q).2.2.2.2.1 k (by omega) (by omega))))⟩⟩
      rw [show (k : Int) + 1 = ((k + 1 : Nat) : Int) by omega]
      refine ih (k + 1) (by omega) (fun l l1 l2 => ?_)
      by_cases e : l = k
      · rw [e]; exact c5
      · exact hl l l1 (by omega)
  exact ll (h 5 1).toNat 0 (by omega) (fun l l1 l2 => absurd l2 (by omega))
set_option maxRecDepth 100000 in
theorem pA_load (n0 : 0 ≤ h 5 0 ∧ h 5 0 ≤ 5) (n1 : 0 ≤ h 5 1 ∧ h 5 1 ≤ 10) (n3 : 0 ≤ h 5 3 ∧ h 5 3 ≤ 6) (hb : ∀ i : Int, 0 ≤ i → i < 1600 → 0 ≤ h 2 i ∧ h 2 i ≤ 255)
    (hy : ∀ h', Fr (fun k _ => 86 ≤ k ∧ k ≤ 94) h h' → h' 86 0 = 256 * h 2 0 + h 2 1 → h' 86 1 = h 2 2 → h' 86 2 = 0 → (∀ l, 0 ≤ l → l < h 5 1 → h' 87 l = h 2 (3 + l)) →
      (∀ p, 0 ≤ p → p < h 5 3 → h' 88 p = h 2 (3 + h 5 1 + 2 * p) ∧ h' 89 p = h 2 (3 + h 5 1 + 2 * p + 1)) → (∀ q, 0 ≤ q → q < h 5 0 → h' 90 q = four (h 2 (3 + h 5 1 + 2 * h 5 3 + 4 * q)) (h 2 (3 + h 5 1 + 2 * h 5 3 + 4 * q + 1)) (h 2 (3 + h 5 1 + 2 * h 5 3 + 4 * q + 2)) (h 2 (3 + h 5 1 + 2 * h 5 3 + 4 * q + 3))) → Q 0 h') : qC tFA (d + 1) k_Roofs_load [86, 2, 5] h Q := by
  have b0 := hb 0 (by omega) (by omega)
  have b1 := hb 1 (by omega) (by omega)
  refine qC_intro (TA_Roofs_load_0 _ _ _ _ _ ?_)
  rw [mMul_ok (by omega) (by omega), mAdd_ok (by omega) (by omega)]
  have fr0 : Fr (fun k _ => 86 ≤ k ∧ k ≤ 94) h (mmS (mmS (mmS h 86 0 (h 2 0 * 256 + h 2 1)) 86 1 (h 2 2)) 86 2 0) := ((Fr.rf.put (by omega)).put (by omega)).put (by omega)
  have c0 : mmS (mmS (mmS h 86 0 (h 2 0 * 256 + h 2 1)) 86 1 (h 2 2)) 86 2 0 86 0 = 256 * h 2 0 + h 2 1 := by rw [mmS_slot, if_neg (by omega), mmS_slot, if_neg (by omega), mmS_slot, if_pos rfl]; omega
  have c1 : mmS (mmS (mmS h 86 0 (h 2 0 * 256 + h 2 1)) 86 1 (h 2 2)) 86 2 0 86 1 = h 2 2 := by rw [mmS_slot, if_neg (by omega), mmS_slot, if_pos rfl]
  have c2 : mmS (mmS (mmS h 86 0 (h 2 0 * 256 + h 2 1)) 86 1 (h 2 2)) 86 2 0 86 2 = 0 := by rw [mmS_slot, if_pos rfl]
  generalize hH : mmS (mmS (mmS h 86 0 (h 2 0 * 256 + h 2 1)) 86 1 (h 2 2)) 86 2 0 = h0 at fr0 c0 c1 c2 ⊢
  have lo : ∀ (j k : Nat) (H : mmH), (k : Int) + j = h 5 0 → Fr (fun k _ => 86 ≤ k ∧ k ≤ 94) h H → (∀ i, H 86 i = h0 86 i) → (∀ l, 0 ≤ l → l < h 5 1 → H 87 l = h 2 (3 + l)) → (∀ p, 0 ≤ p → p < h 5 3 → H 88 p = h 2 (3 + h 5 1 + 2 * p) ∧ H 89 p = h 2 (3 + h 5 1 + 2 * p + 1)) →
      (∀ q, 0 ≤ q → q < (k : Int) → H 90 q = four (h 2 (3 + h 5 1 + 2 * h 5 3 + 4 * q)) (h 2 (3 + h 5 1 + 2 * h 5 3 + 4 * q + 1)) (h 2 (3 + h 5 1 + 2 * h 5 3 + 4 * q + 2)) (h 2 (3 + h 5 1 + 2 * h 5 3 + 4 * q + 3))) → qB tFA d k_Roofs_load (h 0 0) (h 0 1) Q 5 [(3, 86), (3, 2), (3, 5), (1, 3 + h 5 1 + 2 * h 5 3 + 4 * (k : Int)), (1, (k : Int))] [] H := by
    intro j
    induction j with
    | zero =>
      intro k H hk fH e86 e87 e88 e90
      refine TA_Roofs_load_5 _ _ _ _ _ _ _ ⟨fun _ => hy H fH (by rw [e86]; exact c0) (by rw [e86]; exact c1) (by rw [e86]; exact c2) e87 e88 (fun q q1 q2 => e90 q q1 (by omega)), fun c => absurd (by rw [fH 5 0 (by omega)]; omega) c⟩
    | succ j ih =>
      intro k H hk fH e86 e87 e88 e90
      refine TA_Roofs_load_5 _ _ _ _ _ _ _ ?_
      rw [mmD_iff, mmD_iff, mmD_iff, mmD_iff, mmD_iff, mAdd_ok (b := 1) (by omega) (by omega), mAdd_ok (b := 2) (by omega) (by omega), mAdd_ok (b := 3) (by omega) (by omega), mAdd_ok (b := 4) (by omega) (by omega), mAdd_ok (b := 1) (by omega) (by omega)]
      refine ⟨fun c => absurd c (by rw [fH 5 0 (by omega)]; omega), fun _ => ⟨by omega, by omega, by omega, by omega, by omega, ?_⟩⟩
      rw [show (k : Int) + 1 = ((k + 1 : Nat) : Int) by omega, show 3 + h 5 1 + 2 * h 5 3 + 4 * (k : Int) + 4 = 3 + h 5 1 + 2 * h 5 3 + 4 * ((k + 1 : Nat) : Int) by omega]
      refine ih (k + 1) _ (by omega) (fH.put (by omega)) (fun i => by rw [mmS_cell (by omega)]; exact e86 i) (fun l l1 l2 => by rw [mmS_cell (by omega)]; exact e87 l l1 l2) (fun p p1 p2 => by rw [mmS_cell (by omega), mmS_cell (by omega)]; exact e88 p p1 p2) (fun q q1 q2 => ?_)
      rw [mmS_slot]
      by_cases e : q = k
      · rw [if_pos e, e, fH 2 _ (by omega), fH 2 _ (by omega), fH 2 _ (by omega), fH 2 _ (by omega)]
        rfl
      · rw [if_neg e]; exact e90 q q1 (by omega)
  have lp : ∀ (j k : Nat) (H : mmH), (k : Int) + j = h 5 3 → Fr (fun k _ => 86 ≤ k ∧ k ≤ 94) h H → (∀ i, H 86 i = h0 86 i) → (∀ l, 0 ≤ l → l < h 5 1 → H 87 l = h 2 (3 + l)) → (∀ p, 0 ≤ p → p < (k : Int) → H 88 p = h 2 (3 + h 5 1 + 2 * p) ∧ H 89 p = h 2 (3 + h 5 1 + 2 * p + 1)) → qB tFA d k_Roofs_load (h 0 0) (h 0 1) Q 3 [(3, 86), (3, 2), (3, 5), (1, 3 + h 5 1 + 2 * (k : Int)), (1, (k : Int))] [] H := by
    intro j
    induction j with
    | zero =>
      intro k H hk fH e86 e87 e88
      refine TA_Roofs_load_3 _ _ _ _ _ _ _ ⟨fun _ => ?_, fun c => absurd (by rw [fH 5 3 (by omega)]; omega) c⟩
      have := lo (h 5 0).toNat 0 H (by omega) fH e86 e87 (fun p p1 p2 => e88 p p1 (by omega)) (fun q q1 q2 => absurd q2 (by omega))
      rw [show 3 + h 5 1 + 2 * (k : Int) = 3 + h 5 1 + 2 * h 5 3 + 4 * ((0 : Nat) : Int) by omega]
      exact this
    | succ j ih =>
      intro k H hk fH e86 e87 e88
      refine TA_Roofs_load_3 _ _ _ _ _ _ _ ?_
      rw [mmD_iff, mmD_iff, mmD_iff, mmD_iff, mAdd_ok (b := 1) (by omega) (by omega), mAdd_ok (b := 2) (by omega) (by omega), mAdd_ok (b := 1) (by omega) (by omega)]
      refine ⟨fun c => absurd c (by rw [fH 5 3 (by omega)]; omega), fun _ => ⟨by omega, by omega, by omega, by omega, ?_⟩⟩
      rw [show (k : Int) + 1 = ((k + 1 : Nat) : Int) by omega, show 3 + h 5 1 + 2 * (k : Int) + 2 = 3 + h 5 1 + 2 * ((k + 1 : Nat) : Int) by omega]
      refine ih (k + 1) _ (by omega) ((fH.put (by omega)).put (by omega)) (fun i => by rw [mmS_cell (by omega), mmS_cell (by omega)]; exact e86 i) (fun l l1 l2 => by rw [mmS_cell (by omega), mmS_cell (by omega)]; exact e87 l l1 l2) (fun p p1 p2 => ?_)
      rw [mmS_cell (by omega), mmS_slot, mmS_slot, mmS_cell (by omega)]
      by_cases e : p = k
      · rw [if_pos e, if_pos e, e, fH 2 _ (by omega), fH 2 _ (by omega)]
        exact ⟨rfl, rfl⟩
      · rw [if_neg e, if_neg e]; exact e88 p p1 (by omega)
  have ll : ∀ (j k : Nat) (H : mmH), (k : Int) + j = h 5 1 → Fr (fun k _ => 86 ≤ k ∧ k ≤ 94) h H → (∀ i, H 86 i = h0 86 i) → (∀ l, 0 ≤ l → l < (k : Int) → H 87 l = h 2 (3 + l)) → qB tFA d k_Roofs_load (h 0 0) (h 0 1) Q 1 [(3, 86), (3, 2), (3, 5), (1, 3 + (k : Int)), (1, (k : Int))] [] H := by
    intro j
    induction j with
    | zero =>
      intro k H hk fH e86 e87
      refine TA_Roofs_load_1 _ _ _ _ _ _ _ ⟨fun _ => ?_, fun c => absurd (by rw [fH 5 1 (by omega)]; omega) c⟩
      have := lp (h 5 3).toNat 0 H (by omega) fH e86 (fun l l1 l2 => e87 l l1 (by omega)) (fun p p1 p2 => absurd p2 (by omega))
      rw [show 3 + (k : Int) = 3 + h 5 1 + 2 * ((0 : Nat) : Int) by omega]
      exact this
    | succ j ih =>
      intro k H hk fH e86 e87
      refine TA_Roofs_load_1 _ _ _ _ _ _ _ ?_
      rw [mmD_iff, mmD_iff, mAdd_ok (a := 3 + (k : Int)) (by omega) (by omega), mAdd_ok (a := (k : Int)) (by omega) (by omega)]
      refine ⟨fun c => absurd c (by rw [fH 5 1 (by omega)]; omega), fun _ => ⟨by omega, by omega, ?_⟩⟩
      rw [show (k : Int) + 1 = ((k + 1 : Nat) : Int) by omega, show 3 + (k : Int) + 1 = 3 + ((k + 1 : Nat) : Int) by omega]
      refine ih (k + 1) _ (by omega) (fH.put (by omega)) (fun i => by rw [mmS_cell (by omega)]; exact e86 i) (fun l l1 l2 => ?_)
      rw [mmS_slot]
      by_cases e : l = k
      · rw [if_pos e, e, fH 2 _ (by omega)]
      · rw [if_neg e]; exact e87 l l1 (by omega)
  exact ll (h 5 1).toNat 0 h0 (by omega) fr0 (fun _ => rfl) (fun l l1 l2 => absurd l2 (by omega))
theorem aA_on (hC : Cy 5 h m0) (hy : ∀ x h', onP 5 h x h' → Q x h') : qC tFA (d + 3) k_c_on [1] h Q := by
  have n0 := hC.1.1.1.2.1.1
  have n1 := hC.1.1.1.2.1.2.1
  have n3 := hC.1.1.1.2.1.2.2.1
  have t := hC.1.2.2.1.2
  have e2 : mmS h 1 1 0 2 = h 2 := funext fun i => mmS_cell (by omega)
  have eU : mmS h 1 1 0 5 = h 5 := funext fun i => mmS_cell (by omega)
  have back : mmS (mmS h 1 1 0) 1 1 (h 1 1) = h := by
    funext k i
    by_cases e : k = 1
    · subst e
      rw [mmS_slot, mmS_slot]
      by_cases e2 : i = 1
      · rw [if_pos e2, e2]
      · rw [if_neg e2, if_neg e2]
    · rw [mmS_cell e, mmS_cell e]
  refine qC_intro (TA_c_on_0 _ _ _ _ _ (pA_isImage (by rw [eU]; exact n0) (by rw [eU]; exact n1) (by rw [eU]; exact n3) (by rw [e2]; exact fun i i1 i2 => (t i i1 i2).2) (fun x hx => ?_)))
  rw [back] at hx
  refine ⟨fun c => pA_load (by rw [eU]; exact n0) (by rw [eU]; exact n1) (by rw [eU]; exact n3) (by rw [e2]; exact fun i i1 i2 => (t i i1 i2).2) (fun h2 f2 a1 a2 a3 a4 a5 a6 => ?_), fun c => hy _ _ (Or.inl ⟨hx.neg (Decidable.of_not_not c), rfl, rfl⟩)⟩
  rw [e2] at a1 a2 a4 a5 a6
  rw [eU] at a4 a5 a6
  have q : ∀ k i, k ≠ 1 → mmS h2 1 7 0 k i = h2 k i := fun k i z => mmS_cell z
  refine hy _ _ (Or.inr ⟨hx.pos c, rfl, ?_, ?_, ?_, ?_, ?_, ?_, fun l l1 l2 => ?_, fun p p1 p2 => ?_, fun o o1 o2 => ?_⟩)
  · exact (((Fr.rf.put (by omega)).tr (f2.mono (fun k i z => Or.inl z))).put (by omega))
  · rw [mmS_slot, if_neg (by omega), f2 1 1 (by omega), mmS_slot, if_pos rfl]
  · rw [mmS_slot, if_pos rfl]
  · rw [q 86 0 (by omega)]; exact a1
  · rw [q 86 1 (by omega)]; exact a2
  · rw [q 86 2 (by omega)]; exact a3
  · rw [q 87 l (by omega)]; exact a4 l l1 l2
  · rw [q 88 p (by omega), q 89 p (by omega)]; exact a5 p p1 p2
  · rw [q 90 o (by omega)]; exact a6 o o1 o2
end ONA
section ONB
variable {d : Nat} {h m0 : mmH} {Q : Int → mmH → Prop}
set_option maxRecDepth 100000 in
theorem pB_check2 {n : Nat} (n2 : n ≤ 1600) (hb : ∀ i : Int, 0 ≤ i → i < n → 0 ≤ h 2 i ∧ h 2 i ≤ 255) (hy : Q (chkF (h 2) n) h) : qC tFB (d + 1) k_c_checkByte [2, (n : Int)] h Q := by
  refine qC_intro (TB2_c_checkByte_0 _ _ _ _ _ _ ?_)
  have key : ∀ (j k : Nat), k + j = n → qB tFB d k_c_checkByte (h 0 0) (h 0 1) Q 1 [(3, 2), (1, (n : Int)), (1, chkF (h 2) k), (1, (k : Int))] [] h := by
    intro j
    induction j with
    | zero =>
      intro k hk
      have e : k = n := by omega
      subst e
      exact TB2_c_checkByte_1 _ _ _ _ _ _ _ _ ⟨fun _ => hy, fun c => absurd (by omega) c⟩
    | succ j ih =>
      intro k hk
      have c := chkF_ok (h 2) k
      have b := hb k (by omega) (by omega)
      refine TB2_c_checkByte_1 _ _ _ _ _ _ _ _ ⟨fun c => absurd c (by omega), fun _ => ⟨fun c => absurd c (by omega), fun _ => mmD_of (by omega) ?_⟩⟩
      rw [mMul_ok (by omega) (by omega), mAdd_ok (a := 3 * chkF (h 2) k) (by omega) (by omega), mRem_nn (by omega) (by omega) (by omega) (by omega), mAdd_ok (a := (k : Int)) (by omega) (by omega), show (k : Int) + 1 = ((k + 1 : Nat) : Int) by omega]
      exact ih (k + 1) (by omega)
  exact key n 0 (by omega)
theorem pB_goesBetween {p a b : Int} (p1 : 0 ≤ p) (p2 : p < 6) (hy : ∀ x, YN x ((a = h (62 + p) 4 ∧ b = h (62 + p) 5) ∨ (a = h (62 + p) 5 ∧ b = h (62 + p) 4)) → Q x h) : qC tFB (d + 1) k_Town_goesBetween [46, p, a, b] h Q := by
  refine qC_intro (TB46_Town_goesBetween_0 _ _ _ _ _ _ _ _ ?_)
  simp (disch := omega) only [mmD_iff, mmG_iff, Bool.and_eq_true, Bool.or_eq_true, Nat.beq_refl, true_and, and_true, Option.getD_none, Option.isNone_none, decide_eq_true_eq, lc_lt0, lc_gt0, lc_le0, lc_ge0, lc_eq0, lc_ne0, ite_true, ite_false, fc_tFA_9, fn_tFA_9, fc_tFB_9, fn_tFB_9, sh_9, wn_9, fc_tFA_50, fn_tFA_50, fc_tFB_50, fn_tFB_50, sh_50, wn_50, fc_tFA_20, fn_tFA_20, fc_tFB_20, fn_tFB_20, sh_20, wn_20, fc_tFA_61, fn_tFA_61, fc_tFB_61, fn_tFB_61, sh_61, wn_61, fc_tFA_27, fn_tFA_27, fc_tFB_27, fn_tFB_27, sh_27, wn_27, fc_tFA_68, fn_tFA_68, fc_tFB_68, fn_tFB_68, sh_68, wn_68, fc_tFA_91, fn_tFA_91, fc_tFB_91, fn_tFB_91, sh_91, wn_91]
  have blk : ¬ (a = h (62 + p) 4 ∧ b = h (62 + p) 5) → qB tFB d k_Town_goesBetween (h 0 0) (h 0 1) Q 1 [(3, 46), (1, p), (1, a), (1, b), (1, h (62 + p) 4), (1, h (62 + p) 5)] [] h := fun hn =>
    TB46_Town_goesBetween_1 _ _ _ _ _ _ _ _ _ _ ⟨fun c => hy _ (YN.no (by omega)), fun c => ⟨fun c2 => hy _ (YN.no (by omega)), fun c2 => hy _ (YN.yes (by omega))⟩⟩
  exact ⟨by omega, by omega, by omega, by omega, fun c => blk (fun q => c q.1), fun c => ⟨fun c2 => hy _ (YN.yes (by omega)), fun c2 => blk (fun q => c2 q.2)⟩⟩
theorem pB_isImage (n0 : 0 ≤ h 46 0 ∧ h 46 0 ≤ 5) (n1 : 0 ≤ h 46 1 ∧ h 46 1 ≤ 10) (n3 : 0 ≤ h 46 3 ∧ h 46 3 ≤ 6) {n : Int} (hb : ∀ i : Int, 0 ≤ i → i < 1600 → 0 ≤ h 2 i ∧ h 2 i ≤ 255) (hy : ∀ x, YN x (isImg 46 (mmS h 1 1 n)) → Q x h) : qC tFB (d + 2) k_c_isImage [1, n] h Q := by
  have eN : imgN 46 (mmS h 1 1 n) = 4 + h 46 1 + 2 * h 46 3 + 4 * h 46 0 := by unfold imgN; rw [mmS_cell (by omega), mmS_cell (by omega), mmS_cell (by omega)]
  have e2 : mmS h 1 1 n 2 = h 2 := funext fun i => mmS_cell (by omega)
  have eL : mmS h 1 1 n 46 = h 46 := funext fun i => mmS_cell (by omega)
  have eP : ∀ p, 0 ≤ p → mmS h 1 1 n (46 + 16 + p) = h (46 + 16 + p) := fun p p0 => funext fun i => mmS_cell (by omega)
  have key : isImg 46 (mmS h 1 1 n) ↔ (n = 4 + h 46 1 + 2 * h 46 3 + 4 * h 46 0 ∧ h 2 (4 + h 46 1 + 2 * h 46 3 + 4 * h 46 0 - 1) = chkF (h 2) (4 + h 46 1 + 2 * h 46 3 + 4 * h 46 0 - 1).toNat ∧ 256 * h 2 0 + h 2 1 ≤ 999 ∧ h 2 2 ≤ 9 ∧ (∀ l, 0 ≤ l → l < h 46 1 → h 2 (3 + l) ≤ 30) ∧
      (∀ p, 0 ≤ p → p < h 46 3 → (h 2 (3 + h 46 1 + 2 * p) = h (46 + 16 + p) 4 ∧ h 2 (3 + h 46 1 + 2 * p + 1) = h (46 + 16 + p) 5) ∨ (h 2 (3 + h 46 1 + 2 * p) = h (46 + 16 + p) 5 ∧ h 2 (3 + h 46 1 + 2 * p + 1) = h (46 + 16 + p) 4))) := by
    unfold isImg
    rw [eN, e2, eL, mmS_slot, if_pos rfl]
    constructor
    · rintro ⟨a1, a2, a3, a4, a5, a6⟩
      exact ⟨a1, a2, a3, a4, a5, fun p p1 p2 => by have := a6 p p1 p2; rw [eP p p1] at this; exact this⟩
    · rintro ⟨a1, a2, a3, a4, a5, a6⟩
      exact ⟨a1, a2, a3, a4, a5, fun p p1 p2 => by have := a6 p p1 p2; rw [eP p p1]; exact this⟩
  refine qC_intro (TB_c_isImage_0 _ _ _ _ _ _ ?_)
  have due : mAdd (mAdd (mAdd (mAdd 3 (h 46 1)) (mMul 2 (h 46 3))) (mMul 4 (h 46 0))) 1 = 4 + h 46 1 + 2 * h 46 3 + 4 * h 46 0 := by
    rw [mMul_ok (a := 2) (by omega) (by omega), mMul_ok (a := 4) (by omega) (by omega), mAdd_ok (a := 3) (by omega) (by omega), mAdd_ok (b := 2 * h 46 3) (by omega) (by omega), mAdd_ok (b := 4 * h 46 0) (by omega) (by omega), mAdd_ok (b := 1) (by omega) (by omega)]
    omega
  rw [due, mmD_iff, mSub_ok (by omega) (by omega)]
  have b0 := hb 0 (by omega) (by omega)
  have b1 := hb 1 (by omega) (by omega)
  refine ⟨fun c => hy _ (YN.no (fun q => c (key.mp q).1)), fun c => ⟨by omega, ?_⟩⟩
  have c1 := Decidable.of_not_not c
  have en : 4 + h 46 1 + 2 * h 46 3 + 4 * h 46 0 - 1 = (((4 + h 46 1 + 2 * h 46 3 + 4 * h 46 0 - 1).toNat : Nat) : Int) := by omega
  have ck : ∀ Q', Q' (chkF (h 2) (4 + h 46 1 + 2 * h 46 3 + 4 * h 46 0 - 1).toNat) h → qC tFB (d + 1) k_c_checkByte [2, 4 + h 46 1 + 2 * h 46 3 + 4 * h 46 0 - 1] h Q' := fun Q' q => by
    rw [en]
    exact pB_check2 (by omega) (fun i i1 i2 => hb i i1 (by omega)) q
  refine ck _ ⟨fun c2 => ?_, fun c2 => hy _ (YN.no (fun q => c2 (key.mp q).2.1))⟩
  rw [mMul_ok (by omega) (by omega), mAdd_ok (by omega) (by omega)]
  refine ⟨fun c3 => hy _ (YN.no (fun q => by have := (key.mp q).2.2.1; omega)), fun c3 => ⟨fun c4 => ?_, fun c4 => hy _ (YN.no (fun q => c4 (key.mp q).2.2.2.1))⟩⟩
  have lp : ∀ (hl : ∀ l, 0 ≤ l → l < h 46 1 → h 2 (3 + l) ≤ 30) (j k : Nat) (w : mmV), (k : Int) + j = h 46 3 → (∀ p, 0 ≤ p → p < (k : Int) → (h 2 (3 + h 46 1 + 2 * p) = h (46 + 16 + p) 4 ∧ h 2 (3 + h 46 1 + 2 * p + 1) = h (46 + 16 + p) 5) ∨ (h 2 (3 + h 46 1 + 2 * p) = h (46 + 16 + p) 5 ∧ h 2 (3 + h 46 1 + 2 * p + 1) = h (46 + 16 + p) 4)) → qB tFB (d + 1) k_c_isImage (h 0 0) (h 0 1) Q 8 [(3, 1), (1, n), (1, 4 + h 46 1 + 2 * h 46 3 + 4 * h 46 0), (1, (k : Int)), w] [] h := by
    intro hl j
    induction j with
    | zero =>
      intro k w hk hp
      exact TB_c_isImage_8 _ _ _ _ _ _ _ _ _ ⟨fun _ => hy _ (YN.yes (key.mpr ⟨c1, c2, by omega, c4, hl, fun p p1 p2 => hp p p1 (by omega)⟩)), fun c => absurd (by omega) c⟩
    | succ j ih =>
      intro k w hk hp
      refine TB_c_isImage_8 _ _ _ _ _ _ _ _ _ ?_
      rw [mmD_iff, mmD_iff, mMul_ok (by omega) (by omega), mAdd_ok (a := 3) (by omega) (by omega), mAdd_ok (b := 2 * (k : Int)) (by omega) (by omega), mAdd_ok (a := 3 + h 46 1 + 2 * (k : Int)) (by omega) (by omega), mAdd_ok (a := (k : Int)) (by omega) (by omega)]
      refine ⟨fun c => absurd c (by omega), fun _ => ⟨by omega, by omega, pB_goesBetween (by omega) (by omega) (fun x hx => ⟨fun c5 => ?_, fun c5 => hy _ (YN.no (fun q => hx.neg (Decidable.of_not_not c5) ((key.mp q).2.2.2.2.2 k (by omega) (by omega))))⟩)⟩⟩
      rw [show (k : Int) + 1 = ((k + 1 : Nat) : Int) by omega]
      refine ih (k + 1) _ (by omega) (fun p p1 p2 => ?_)
      by_cases e : p = k
      · rw [e]; exact hx.pos c5
      · exact hp p p1 (by omega)
  have ll : ∀ (j k : Nat), (k : Int) + j = h 46 1 → (∀ l, 0 ≤ l → l < (k : Int) → h 2 (3 + l) ≤ 30) → qB tFB (d + 1) k_c_isImage (h 0 0) (h 0 1) Q 5 [(3, 1), (1, n), (1, 4 + h 46 1 + 2 * h 46 3 + 4 * h 46 0), (1, (k : Int)), (0, 0)] [] h := by
    intro j
    induction j with
    | zero =>
      intro k hk hl
      exact TB_c_isImage_5 _ _ _ _ _ _ _ _ ⟨fun _ => lp (fun l l1 l2 => hl l l1 (by omega)) (h 46 3).toNat 0 _ (by omega) (fun p p1 p2 => absurd p2 (by omega)), fun c => absurd (by omega) c⟩
    | succ j ih =>
      intro k hk hl
      refine TB_c_isImage_5 _ _ _ _ _ _ _ _ ?_
      rw [mmD_iff, mAdd_ok (a := 3) (by omega) (by omega), mAdd_ok (a := (k : Int)) (by omega) (by omega)]
      refine ⟨fun c => absurd c (by omega), fun _ => ⟨by omega, fun c5 => ?_, fun c5 => hy _ (YN.no (fun q => c5 ((key.mp q).2.2.2.2.1 k (by omega) (by omega))))⟩⟩
      rw [show (k : Int) + 1 = ((k + 1 : Nat) : Int) by omega]
      refine ih (k + 1) (by omega) (fun l l1 l2 => ?_)
      by_cases e : l = k
      · rw [e]; exact c5
      · exact hl l l1 (by omega)
  exact ll (h 46 1).toNat 0 (by omega) (fun l l1 l2 => absurd l2 (by omega))
set_option maxRecDepth 100000 in
theorem pB_load (n0 : 0 ≤ h 46 0 ∧ h 46 0 ≤ 5) (n1 : 0 ≤ h 46 1 ∧ h 46 1 ≤ 10) (n3 : 0 ≤ h 46 3 ∧ h 46 3 ≤ 6) (hb : ∀ i : Int, 0 ≤ i → i < 1600 → 0 ≤ h 2 i ∧ h 2 i ≤ 255)
    (hy : ∀ h', Fr (fun k _ => 86 ≤ k ∧ k ≤ 94) h h' → h' 86 0 = 256 * h 2 0 + h 2 1 → h' 86 1 = h 2 2 → h' 86 2 = 0 → (∀ l, 0 ≤ l → l < h 46 1 → h' 87 l = h 2 (3 + l)) →
      (∀ p, 0 ≤ p → p < h 46 3 → h' 88 p = h 2 (3 + h 46 1 + 2 * p) ∧ h' 89 p = h 2 (3 + h 46 1 + 2 * p + 1)) → (∀ q, 0 ≤ q → q < h 46 0 → h' 90 q = four (h 2 (3 + h 46 1 + 2 * h 46 3 + 4 * q)) (h 2 (3 + h 46 1 + 2 * h 46 3 + 4 * q + 1)) (h 2 (3 + h 46 1 + 2 * h 46 3 + 4 * q + 2)) (h 2 (3 + h 46 1 + 2 * h 46 3 + 4 * q + 3))) → Q 0 h') : qC tFB (d + 1) k_Roofs_load [86, 2, 46] h Q := by
  have b0 := hb 0 (by omega) (by omega)
  have b1 := hb 1 (by omega) (by omega)
  refine qC_intro (TB_Roofs_load_0 _ _ _ _ _ ?_)
  rw [mMul_ok (by omega) (by omega), mAdd_ok (by omega) (by omega)]
  have fr0 : Fr (fun k _ => 86 ≤ k ∧ k ≤ 94) h (mmS (mmS (mmS h 86 0 (h 2 0 * 256 + h 2 1)) 86 1 (h 2 2)) 86 2 0) := ((Fr.rf.put (by omega)).put (by omega)).put (by omega)
  have c0 : mmS (mmS (mmS h 86 0 (h 2 0 * 256 + h 2 1)) 86 1 (h 2 2)) 86 2 0 86 0 = 256 * h 2 0 + h 2 1 := by rw [mmS_slot, if_neg (by omega), mmS_slot, if_neg (by omega), mmS_slot, if_pos rfl]; omega
  have c1 : mmS (mmS (mmS h 86 0 (h 2 0 * 256 + h 2 1)) 86 1 (h 2 2)) 86 2 0 86 1 = h 2 2 := by rw [mmS_slot, if_neg (by omega), mmS_slot, if_pos rfl]
  have c2 : mmS (mmS (mmS h 86 0 (h 2 0 * 256 + h 2 1)) 86 1 (h 2 2)) 86 2 0 86 2 = 0 := by rw [mmS_slot, if_pos rfl]
  generalize hH : mmS (mmS (mmS h 86 0 (h 2 0 * 256 + h 2 1)) 86 1 (h 2 2)) 86 2 0 = h0 at fr0 c0 c1 c2 ⊢
  have lo : ∀ (j k : Nat) (H : mmH), (k : Int) + j = h 46 0 → Fr (fun k _ => 86 ≤ k ∧ k ≤ 94) h H → (∀ i, H 86 i = h0 86 i) → (∀ l, 0 ≤ l → l < h 46 1 → H 87 l = h 2 (3 + l)) → (∀ p, 0 ≤ p → p < h 46 3 → H 88 p = h 2 (3 + h 46 1 + 2 * p) ∧ H 89 p = h 2 (3 + h 46 1 + 2 * p + 1)) →
      (∀ q, 0 ≤ q → q < (k : Int) → H 90 q = four (h 2 (3 + h 46 1 + 2 * h 46 3 + 4 * q)) (h 2 (3 + h 46 1 + 2 * h 46 3 + 4 * q + 1)) (h 2 (3 + h 46 1 + 2 * h 46 3 + 4 * q + 2)) (h 2 (3 + h 46 1 + 2 * h 46 3 + 4 * q + 3))) → qB tFB d k_Roofs_load (h 0 0) (h 0 1) Q 5 [(3, 86), (3, 2), (3, 46), (1, 3 + h 46 1 + 2 * h 46 3 + 4 * (k : Int)), (1, (k : Int))] [] H := by
    intro j
    induction j with
    | zero =>
      intro k H hk fH e86 e87 e88 e90
      refine TB_Roofs_load_5 _ _ _ _ _ _ _ ⟨fun _ => hy H fH (by rw [e86]; exact c0) (by rw [e86]; exact c1) (by rw [e86]; exact c2) e87 e88 (fun q q1 q2 => e90 q q1 (by omega)), fun c => absurd (by rw [fH 46 0 (by omega)]; omega) c⟩
    | succ j ih =>
      intro k H hk fH e86 e87 e88 e90
      refine TB_Roofs_load_5 _ _ _ _ _ _ _ ?_
      rw [mmD_iff, mmD_iff, mmD_iff, mmD_iff, mmD_iff, mAdd_ok (b := 1) (by omega) (by omega), mAdd_ok (b := 2) (by omega) (by omega), mAdd_ok (b := 3) (by omega) (by omega), mAdd_ok (b := 4) (by omega) (by omega), mAdd_ok (b := 1) (by omega) (by omega)]
      refine ⟨fun c => absurd c (by rw [fH 46 0 (by omega)]; omega), fun _ => ⟨by omega, by omega, by omega, by omega, by omega, ?_⟩⟩
      rw [show (k : Int) + 1 = ((k + 1 : Nat) : Int) by omega, show 3 + h 46 1 + 2 * h 46 3 + 4 * (k : Int) + 4 = 3 + h 46 1 + 2 * h 46 3 + 4 * ((k + 1 : Nat) : Int) by omega]
      refine ih (k + 1) _ (by omega) (fH.put (by omega)) (fun i => by rw [mmS_cell (by omega)]; exact e86 i) (fun l l1 l2 => by rw [mmS_cell (by omega)]; exact e87 l l1 l2) (fun p p1 p2 => by rw [mmS_cell (by omega), mmS_cell (by omega)]; exact e88 p p1 p2) (fun q q1 q2 => ?_)
      rw [mmS_slot]
      by_cases e : q = k
      · rw [if_pos e, e, fH 2 _ (by omega), fH 2 _ (by omega), fH 2 _ (by omega), fH 2 _ (by omega)]
        rfl
      · rw [if_neg e]; exact e90 q q1 (by omega)
  have lp : ∀ (j k : Nat) (H : mmH), (k : Int) + j = h 46 3 → Fr (fun k _ => 86 ≤ k ∧ k ≤ 94) h H → (∀ i, H 86 i = h0 86 i) → (∀ l, 0 ≤ l → l < h 46 1 → H 87 l = h 2 (3 + l)) → (∀ p, 0 ≤ p → p < (k : Int) → H 88 p = h 2 (3 + h 46 1 + 2 * p) ∧ H 89 p = h 2 (3 + h 46 1 + 2 * p + 1)) → qB tFB d k_Roofs_load (h 0 0) (h 0 1) Q 3 [(3, 86), (3, 2), (3, 46), (1, 3 + h 46 1 + 2 * (k : Int)), (1, (k : Int))] [] H := by
    intro j
    induction j with
    | zero =>
      intro k H hk fH e86 e87 e88
      refine TB_Roofs_load_3 _ _ _ _ _ _ _ ⟨fun _ => ?_, fun c => absurd (by rw [fH 46 3 (by omega)]; omega) c⟩
      have := lo (h 46 0).toNat 0 H (by omega) fH e86 e87 (fun p p1 p2 => e88 p p1 (by omega)) (fun q q1 q2 => absurd q2 (by omega))
      rw [show 3 + h 46 1 + 2 * (k : Int) = 3 + h 46 1 + 2 * h 46 3 + 4 * ((0 : Nat) : Int) by omega]
      exact this
    | succ j ih =>
      intro k H hk fH e86 e87 e88
      refine TB_Roofs_load_3 _ _ _ _ _ _ _ ?_
      rw [mmD_iff, mmD_iff, mmD_iff, mmD_iff, mAdd_ok (b := 1) (by omega) (by omega), mAdd_ok (b := 2) (by omega) (by omega), mAdd_ok (b := 1) (by omega) (by omega)]
      refine ⟨fun c => absurd c (by rw [fH 46 3 (by omega)]; omega), fun _ => ⟨by omega, by omega, by omega, by omega, ?_⟩⟩
      rw [show (k : Int) + 1 = ((k + 1 : Nat) : Int) by omega, show 3 + h 46 1 + 2 * (k : Int) + 2 = 3 + h 46 1 + 2 * ((k + 1 : Nat) : Int) by omega]
      refine ih (k + 1) _ (by omega) ((fH.put (by omega)).put (by omega)) (fun i => by rw [mmS_cell (by omega), mmS_cell (by omega)]; exact e86 i) (fun l l1 l2 => by rw [mmS_cell (by omega), mmS_cell (by omega)]; exact e87 l l1 l2) (fun p p1 p2 => ?_)
      rw [mmS_cell (by omega), mmS_slot, mmS_slot, mmS_cell (by omega)]
      by_cases e : p = k
      · rw [if_pos e, if_pos e, e, fH 2 _ (by omega), fH 2 _ (by omega)]
        exact ⟨rfl, rfl⟩
      · rw [if_neg e, if_neg e]; exact e88 p p1 (by omega)
  have ll : ∀ (j k : Nat) (H : mmH), (k : Int) + j = h 46 1 → Fr (fun k _ => 86 ≤ k ∧ k ≤ 94) h H → (∀ i, H 86 i = h0 86 i) → (∀ l, 0 ≤ l → l < (k : Int) → H 87 l = h 2 (3 + l)) → qB tFB d k_Roofs_load (h 0 0) (h 0 1) Q 1 [(3, 86), (3, 2), (3, 46), (1, 3 + (k : Int)), (1, (k : Int))] [] H := by
    intro j
    induction j with
    | zero =>
      intro k H hk fH e86 e87
      refine TB_Roofs_load_1 _ _ _ _ _ _ _ ⟨fun _ => ?_, fun c => absurd (by rw [fH 46 1 (by omega)]; omega) c⟩
      have := lp (h 46 3).toNat 0 H (by omega) fH e86 (fun l l1 l2 => e87 l l1 (by omega)) (fun p p1 p2 => absurd p2 (by omega))
      rw [show 3 + (k : Int) = 3 + h 46 1 + 2 * ((0 : Nat) : Int) by omega]
      exact this
    | succ j ih =>
      intro k H hk fH e86 e87
      refine TB_Roofs_load_1 _ _ _ _ _ _ _ ?_
      rw [mmD_iff, mmD_iff, mAdd_ok (a := 3 + (k : Int)) (by omega) (by omega), mAdd_ok (a := (k : Int)) (by omega) (by omega)]
      refine ⟨fun c => absurd c (by rw [fH 46 1 (by omega)]; omega), fun _ => ⟨by omega, by omega, ?_⟩⟩
      rw [show (k : Int) + 1 = ((k + 1 : Nat) : Int) by omega, show 3 + (k : Int) + 1 = 3 + ((k + 1 : Nat) : Int) by omega]
      refine ih (k + 1) _ (by omega) (fH.put (by omega)) (fun i => by rw [mmS_cell (by omega)]; exact e86 i) (fun l l1 l2 => ?_)
      rw [mmS_slot]
      by_cases e : l = k
      · rw [if_pos e, e, fH 2 _ (by omega)]
      · rw [if_neg e]; exact e87 l l1 (by omega)
  exact ll (h 46 1).toNat 0 h0 (by omega) fr0 (fun _ => rfl) (fun l l1 l2 => absurd l2 (by omega))
theorem aB_on (hC : Cy 46 h m0) (hy : ∀ x h', onP 46 h x h' → Q x h') : qC tFB (d + 3) k_c_on [1] h Q := by
  have n0 := hC.1.1.1.2.1.1
  have n1 := hC.1.1.1.2.1.2.1
  have n3 := hC.1.1.1.2.1.2.2.1
  have t := hC.1.2.2.1.2
  have e2 : mmS h 1 1 0 2 = h 2 := funext fun i => mmS_cell (by omega)
  have eU : mmS h 1 1 0 46 = h 46 := funext fun i => mmS_cell (by omega)
  have back : mmS (mmS h 1 1 0) 1 1 (h 1 1) = h := by
    funext k i
    by_cases e : k = 1
    · subst e
      rw [mmS_slot, mmS_slot]
      by_cases e2 : i = 1
      · rw [if_pos e2, e2]
      · rw [if_neg e2, if_neg e2]
    · rw [mmS_cell e, mmS_cell e]
  refine qC_intro (TB_c_on_0 _ _ _ _ _ (pB_isImage (by rw [eU]; exact n0) (by rw [eU]; exact n1) (by rw [eU]; exact n3) (by rw [e2]; exact fun i i1 i2 => (t i i1 i2).2) (fun x hx => ?_)))
  rw [back] at hx
  refine ⟨fun c => pB_load (by rw [eU]; exact n0) (by rw [eU]; exact n1) (by rw [eU]; exact n3) (by rw [e2]; exact fun i i1 i2 => (t i i1 i2).2) (fun h2 f2 a1 a2 a3 a4 a5 a6 => ?_), fun c => hy _ _ (Or.inl ⟨hx.neg (Decidable.of_not_not c), rfl, rfl⟩)⟩
  rw [e2] at a1 a2 a4 a5 a6
  rw [eU] at a4 a5 a6
  have q : ∀ k i, k ≠ 1 → mmS h2 1 7 0 k i = h2 k i := fun k i z => mmS_cell z
  refine hy _ _ (Or.inr ⟨hx.pos c, rfl, ?_, ?_, ?_, ?_, ?_, ?_, fun l l1 l2 => ?_, fun p p1 p2 => ?_, fun o o1 o2 => ?_⟩)
  · exact (((Fr.rf.put (by omega)).tr (f2.mono (fun k i z => Or.inl z))).put (by omega))
  · rw [mmS_slot, if_neg (by omega), f2 1 1 (by omega), mmS_slot, if_pos rfl]
  · rw [mmS_slot, if_pos rfl]
  · rw [q 86 0 (by omega)]; exact a1
  · rw [q 86 1 (by omega)]; exact a2
  · rw [q 86 2 (by omega)]; exact a3
  · rw [q 87 l (by omega)]; exact a4 l l1 l2
  · rw [q 88 p (by omega), q 89 p (by omega)]; exact a5 p p1 p2
  · rw [q 90 o (by omega)]; exact a6 o o1 o2
end ONB
