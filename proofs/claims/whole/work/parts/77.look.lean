/-! ===== mm: looking at one person, on one side ===== -/
noncomputable def nearS (u : Int) (h : mmH) (s p a b : Int) : Bool := decide (h (u + 23 + a) b ≠ -1 ∧ h (u + 23 + a) b - s ≤ h (u + 16 + p) 1 ∧ h (u + 5 + b) 1 - h (u + 5 + a) 1 ≤ h (u + 16 + p) 2)
/-- where he can come to as all is now -/
noncomputable def opS (u : Int) (h : mmH) (p l : Int) : Bool := decide (0 < h 87 l ∧ tollC u h p l (h 87 l) ≠ -1)
def Swk (u k i : Int) : Prop := Sct u k i ∨ (96 ≤ k ∧ k ≤ 98)
/-- what a look leaves -/
def Wk (u : Int) (h : mmH) (p : Int) (h' : mmH) : Prop :=
  h' 96 0 = h u 1 ∧ h' 96 1 = h 88 p ∧ h' 96 2 = h 89 p ∧ h' 96 3 = setOf (h u 1) (opS u h p) ∧ (∀ l, 0 ≤ l → l < h u 1 → h' 98 l = tollC u h p l (h 87 l) ∧ h' 97 l = setOf (h u 1) (nearS u h (h 86 1) p l))
theorem Swk_ScC {u v k i : Int} (huv : (u = 5 ∧ v = 46) ∨ (u = 46 ∧ v = 5)) (q : Swk u k i) : ScC v k i := by
  unfold Swk Sct at q
  unfold ScC
  rcases huv with ⟨rfl, rfl⟩ | ⟨rfl, rfl⟩ <;> rcases q with (q | q) | q
  · exact Or.inl (by omega)
  · exact Or.inr (Or.inr (Or.inl ⟨Or.inl (by omega), q.2⟩))
  · exact Or.inr (Or.inr (Or.inr (Or.inl (by omega))))
  · exact Or.inr (Or.inl (by omega))
  · exact Or.inr (Or.inr (Or.inl ⟨Or.inr (by omega), q.2⟩))
  · exact Or.inr (Or.inr (Or.inr (Or.inl (by omega))))
theorem tollC_eq {u : Int} {h h2 : mmH} (e : ∀ k i, (k = 86 ∨ (u + 5 ≤ k ∧ k ≤ u + 21) ∨ (k = u + 33 ∧ i = 0) ∨ (u + 34 ≤ k ∧ k ≤ u + 38)) → h2 k i = h k i) {p l t : Int} (p1 : 0 ≤ p) (p2 : p < 6) (l1 : 0 ≤ l) (l2 : l < 10) : tollC u h2 p l t = tollC u h p l t := by
  have g : ∀ k, u + 34 ≤ k → k ≤ u + 38 → h2 k = h k := fun k a b => funext fun i => e k i (by omega)
  have e34 := g (u + 34) (by omega) (by omega)
  have e35 := g (u + 35) (by omega) (by omega)
  have e36 := g (u + 36) (by omega) (by omega)
  have e37 := g (u + 37) (by omega) (by omega)
  have e38 := g (u + 38) (by omega) (by omega)
  have f1 : ∀ e, tstV u h2 e = tstV u h e := fun e => by funext k; unfold tstV; rw [e38, e37, e36]
  have f2 : ∀ e, smV u h2 e = smV u h e := fun e => by funext k; unfold smV; rw [e38, e35, e36]
  unfold tollC tollE
  rw [f1, f2, e34, e35, e36, e 86 0 (by omega), e 86 1 (by omega), e (u + 33) 0 (by omega), e (u + 16 + p) 0 (by omega), e (u + 16 + p) 3 (by omega), e (u + 5 + l) 0 (by omega), e (u + 5 + l) 1 (by omega)]
theorem nearS_eq {u : Int} {h h2 : mmH} (e : ∀ k i, (u + 5 ≤ k ∧ k ≤ u + 32) → h2 k i = h k i) {s p a b : Int} (p1 : 0 ≤ p) (p2 : p < 6) (a1 : 0 ≤ a) (a2 : a < 10) (b1 : 0 ≤ b) (b2 : b < 10) : nearS u h2 s p a b = nearS u h s p a b := by
  unfold nearS
  rw [e (u + 23 + a) b (by omega), e (u + 16 + p) 1 (by omega), e (u + 5 + b) 1 (by omega), e (u + 5 + a) 1 (by omega), e (u + 16 + p) 2 (by omega)]
theorem setOf_succ {n : Int} (p : Int → Bool) (h : 0 ≤ n) : setOf (n + 1) p = bif p n then mOr (setOf n p) (mShl 1 n) else setOf n p := upTo_last _ _ h
theorem setOf_zero (p : Int → Bool) : setOf 0 p = 0 := upTo_self _ _ (Int.le_refl _)
section LOA
variable {d : Nat} {h : mmH} {Q : Int → mmH → Prop}
theorem pA_hopsFrom {s p a : Int} {m0 : mmH} (hT : Tn 5 1 h m0) (p1 : 0 ≤ p) (p2 : p < h 5 3) (a1 : 0 ≤ a) (a2 : a < h 5 1) (s1 : 0 ≤ s) (s2 : s ≤ 9) (hy : Q (setOf (h 5 1) (nearS 5 h s p a)) h) : qC tFA (d + 1) k_Walk_hopsFrom [5, s, p, a] h Q := by
  obtain ⟨hn, hl, -, hg, -, -⟩ := hT
  obtain ⟨-, ⟨n1, n2, n3, n4, n5⟩, -⟩ := hn
  refine qC_intro (TA_Walk_hopsFrom_0 _ _ _ _ _ _ _ _ ?_)
  simp (disch := omega) only [mmD_iff, mmG_iff, Bool.and_eq_true, Bool.or_eq_true, Nat.beq_refl, true_and, and_true, Option.getD_none, Option.isNone_none, decide_eq_true_eq, lc_lt0, lc_gt0, lc_le0, lc_ge0, lc_eq0, lc_ne0, ite_true, ite_false, fc_tFA_9, fn_tFA_9, fc_tFB_9, fn_tFB_9, sh_9, wn_9, fc_tFA_50, fn_tFA_50, fc_tFB_50, fn_tFB_50, sh_50, wn_50, fc_tFA_20, fn_tFA_20, fc_tFB_20, fn_tFB_20, sh_20, wn_20, fc_tFA_61, fn_tFA_61, fc_tFB_61, fn_tFB_61, sh_61, wn_61, fc_tFA_27, fn_tFA_27, fc_tFB_27, fn_tFB_27, sh_27, wn_27, fc_tFA_68, fn_tFA_68, fc_tFB_68, fn_tFB_68, sh_68, wn_68, fc_tFA_91, fn_tFA_91, fc_tFB_91, fn_tFB_91, sh_91, wn_91]
  refine ⟨by omega, by omega, by omega, by omega, ?_⟩
  refine upTo_go (P := fun i (b : Int) => ∀ w8 w9, qB tFA d k_Walk_hopsFrom (h 0 0) (h 0 1) Q 1 [(3, 5), (1, s), (1, p), (1, a), (1, h (21 + p) 1), (1, h (21 + p) 2), (1, b), (1, i), w8, w9] [] h) (f := fun l b => bif nearS 5 h s p a l then mOr b (mShl 1 l) else b) 0 (h 5 1) 0 (by omega) (fun i b i1 i2 hp w8 w9 => ?_) (fun w8 w9 => TA_Walk_hopsFrom_1 _ _ _ _ _ _ _ _ _ _ _ _ _ _ ⟨fun _ => hy, fun c => absurd (Int.le_refl _) c⟩) _ _
  have hli := hl i i1 i2
  have hla := hl a a1 a2
  have hgi := hg a i a1 a2 i1 i2
  simp only [Int.reduceAdd, Int.reduceMul] at hli hla hgi
  refine TA_Walk_hopsFrom_1 _ _ _ _ _ _ _ _ _ _ _ _ _ _ ⟨fun c => absurd c (by omega), fun _ => ?_⟩
  simp (disch := omega) only [mmD_iff, mmG_iff, Bool.and_eq_true, Bool.or_eq_true, Nat.beq_refl, true_and, and_true, Option.getD_none, Option.isNone_none, decide_eq_true_eq, lc_lt0, lc_gt0, lc_le0, lc_ge0, lc_eq0, lc_ne0, ite_true, ite_false, fc_tFA_9, fn_tFA_9, fc_tFB_9, fn_tFB_9, sh_9, wn_9, fc_tFA_50, fn_tFA_50, fc_tFB_50, fn_tFB_50, sh_50, wn_50, fc_tFA_20, fn_tFA_20, fc_tFB_20, fn_tFB_20, sh_20, wn_20, fc_tFA_61, fn_tFA_61, fc_tFB_61, fn_tFB_61, sh_61, wn_61, fc_tFA_27, fn_tFA_27, fc_tFB_27, fn_tFB_27, sh_27, wn_27, fc_tFA_68, fn_tFA_68, fc_tFB_68, fn_tFB_68, sh_68, wn_68, fc_tFA_91, fn_tFA_91, fc_tFB_91, fn_tFB_91, sh_91, wn_91]
  rw [mAdd_ok (a := i) (by omega) (by omega), mSub_ok (a := h (10 + i) 1) (by omega) (by omega), mSub_ok (a := h (28 + a) i) (by omega) (by omega)]
  refine ⟨by omega, by omega, by omega, by omega, by omega, by omega, ?_⟩
  unfold nearS at hp
  simp only [Int.reduceAdd] at hp
  refine ⟨fun c => ?_, fun c => ⟨fun c2 => ?_, fun c2 => ⟨fun c3 => ?_, fun c3 => ?_⟩⟩⟩
  · rw [decide_eq_false (by omega)] at hp; exact hp _ _
  · rw [decide_eq_false (by omega)] at hp; exact hp _ _
  · rw [decide_eq_false (by omega)] at hp; exact hp _ _
  · rw [decide_eq_true (by omega)] at hp; exact hp _ _
theorem lA_look {p : Int} {m0 : mmH} (hT : Tn 5 1 h m0) (hN : Nw 86 329 0 5 h m0) (p1 : 0 ≤ p) (p2 : p < h 5 3) (hy : ∀ h', Fr (Swk 5) h h' → Wk 5 h p h' → Q 0 h') :
    ∀ (m : Nat) (i : Int) (h' : mmH), i + m = h 5 1 → 0 ≤ i → Fr (Swk 5) h h' → h' 96 0 = h 5 1 → h' 96 1 = h 88 p → h' 96 2 = h 89 p → h' 96 3 = setOf i (opS 5 h p) →
      (∀ l, 0 ≤ l → l < i → h' 98 l = tollC 5 h p l (h 87 l) ∧ h' 97 l = setOf (h 5 1) (nearS 5 h (h 86 1) p l)) → qB tFA (d + 4) k_Walk_look (h 0 0) (h 0 1) Q 1 [(3, 96), (3, 5), (3, 86), (1, p), (1, i)] [] h'
  | 0, i, h', hi, hi0, hF, e0, e1, e2, e3, el => by
    have : i = h 5 1 := by omega
    subst this
    exact TA_Walk_look_1 _ _ _ _ _ _ _ ⟨fun _ => hy h' hF ⟨e0, e1, e2, e3, el⟩, fun c => absurd (by omega) c⟩
  | m + 1, i, h', hi, hi0, hF, e0, e1, e2, e3, el => by
    have huv : (((5 : Int) = 5 ∧ (46 : Int) = 46) ∨ ((5 : Int) = 46 ∧ (46 : Int) = 5)) := by decide
    have hS : Fr (ScC 46) h h' := hF.mono (fun _ _ q => Swk_ScC huv q)
    have n1 := hT.1.2.1.2.1
    have n3 := hT.1.2.1.2.2.1
    have hti := hN.2.2.2.1 i hi0 (by omega)
    have hsn := hN.2.1
    simp only [Int.reduceAdd] at hti hsn
    have c87 : ∀ j, h' 87 j = h 87 j := fun j => hF 87 j (by unfold Swk Sct; omega)
    have c86 : ∀ j, h' 86 j = h 86 j := fun j => hF 86 j (by unfold Swk Sct; omega)
    have hTe : tollC 5 h' p i (h 87 i) = tollC 5 h p i (h 87 i) := tollC_eq (fun k j q => hF k j (by unfold Swk Sct; omega)) p1 (by omega) hi0 (by omega)
    refine TA_Walk_look_1 _ _ _ _ _ _ _ ⟨fun c => absurd c (by omega), fun _ => ?_⟩
    simp only [mmD_iff]
    refine ⟨by omega, ?_⟩
    rw [c87 i]
    refine pA_tollAt (Tn_frC huv hS hT) (by rw [c86]; exact hN.1.2) p1 (by rw [hF 5 3 (by unfold Swk Sct; omega)]; exact p2) hi0 (by rw [hF 5 1 (by unfold Swk Sct; omega)]; omega) hti.2.1 hti.2.2 (fun h1 f1 => ?_)
    rw [hTe]
    have F1 : Fr (Swk 5) h h1 := hF.tr (f1.mono (fun _ _ q => Or.inl q))
    have d87 : ∀ j, h1 87 j = h 87 j := fun j => F1 87 j (by unfold Swk Sct; omega)
    have d86 : ∀ j, h1 86 j = h 86 j := fun j => F1 86 j (by unfold Swk Sct; omega)
    have d96 : ∀ j, h1 96 j = h' 96 j := fun j => f1 96 j (by unfold Sct; omega)
    have d97 : ∀ j, h1 97 j = h' 97 j := fun j => f1 97 j (by unfold Sct; omega)
    have d98 : ∀ j, h1 98 j = h' 98 j := fun j => f1 98 j (by unfold Sct; omega)
    rw [d87, d86, mmS_self]
    refine ⟨by omega, by omega, ?_⟩
    -- behind the hops
    have fin : ∀ h2 : mmH, Fr (Swk 5) h h2 → (∀ j, h2 96 j = if j = 3 then setOf (i + 1) (opS 5 h p) else h' 96 j) → (∀ j, h2 97 j = h' 97 j) → (∀ j, h2 98 j = if j = i then tollC 5 h p i (h 87 i) else h' 98 j) →
        qC tFA (d + 4) k_Walk_hopsFrom [5, h 86 1, p, i] h2 (fun x2 h2 => (0 ≤ i ∧ i < ((10 : Nat) : Int)) ∧ qB tFA (d + 4) k_Walk_look (h 0 0) (h 0 1) Q 1 [(3, 96), (3, 5), (3, 86), (1, p), (1, mAdd i 1)] [] (mmS h2 97 i x2)) := by
      intro h2 F2 g96 g97 g98
      have hS2 : Fr (ScC 46) h h2 := F2.mono (fun _ _ q => Swk_ScC huv q)
      refine pA_hopsFrom (Tn_frC huv hS2 hT) p1 (by rw [F2 5 3 (by unfold Swk Sct; omega)]; exact p2) hi0 (by rw [F2 5 1 (by unfold Swk Sct; omega)]; omega) hsn.2.1 hsn.2.2 ⟨by omega, ?_⟩
      rw [mAdd_ok (a := i) (by omega) (by omega), F2 5 1 (by unfold Swk Sct; omega)]
      refine lA_look hT hN p1 p2 hy m (i + 1) _ (by omega) (by omega) (F2.put (Or.inr ⟨by omega, by omega⟩)) ?_ ?_ ?_ ?_ (fun l l1 l2 => ?_)
      · rw [mmS_cell (by omega), g96, if_neg (by omega)]; exact e0
      · rw [mmS_cell (by omega), g96, if_neg (by omega)]; exact e1
      · rw [mmS_cell (by omega), g96, if_neg (by omega)]; exact e2
      · rw [mmS_cell (by omega), g96, if_pos rfl]
      · rw [mmS_cell (by omega), mmS_slot, g98, g97]
        by_cases ei : l = i
        · subst ei
          rw [if_pos rfl, if_pos rfl]
          exact ⟨rfl, setOf_congr (fun b b1 b2 => nearS_eq (fun k j q => F2 k j (by unfold Swk Sct; omega)) p1 (by omega) hi0 (by omega) b1 (by omega))⟩
        · rw [if_neg ei, if_neg ei]
          exact el l l1 (by omega)
    have no : opS 5 h p i = false → qC tFA (d + 4) k_Walk_hopsFrom [5, h 86 1, p, i] (mmS h1 98 i (tollC 5 h p i (h 87 i))) (fun x2 h2 => (0 ≤ i ∧ i < ((10 : Nat) : Int)) ∧ qB tFA (d + 4) k_Walk_look (h 0 0) (h 0 1) Q 1 [(3, 96), (3, 5), (3, 86), (1, p), (1, mAdd i 1)] [] (mmS h2 97 i x2)) := by
      intro hop
      refine fin _ (F1.put (Or.inr ⟨by omega, by omega⟩)) (fun j => ?_) (fun j => ?_) (fun j => ?_)
      · rw [mmS_cell (by omega), d96, setOf_succ _ hi0, hop]
        by_cases ej : j = 3
        · rw [if_pos ej, ej, e3]; rfl
        · rw [if_neg ej]
      · rw [mmS_cell (by omega), d97]
      · rw [mmS_slot, d98]
    refine ⟨fun c => no ?_, fun c => ⟨by omega, fun c2 => no ?_, fun c2 => ?_⟩⟩
    · unfold opS; exact decide_eq_false (fun q => by omega)
    · unfold opS; exact decide_eq_false (fun q => q.2 c2)
    · have hop : opS 5 h p i = true := by unfold opS; exact decide_eq_true ⟨by omega, c2⟩
      refine fin _ ((F1.put (Or.inr ⟨by omega, by omega⟩)).put (Or.inr ⟨by omega, by omega⟩)) (fun j => ?_) (fun j => ?_) (fun j => ?_)
      · rw [mmS_slot, mmS_cell (by omega), d96, setOf_succ _ hi0, hop]
        by_cases ej : j = 3
        · rw [if_pos ej, if_pos ej, e3]; rfl
        · rw [if_neg ej, if_neg ej, d96]
      · rw [mmS_cell (by omega), mmS_cell (by omega), d97]
      · rw [mmS_cell (by omega), mmS_slot, d98]
theorem pA_look {p : Int} {m0 : mmH} (hT : Tn 5 1 h m0) (hN : Nw 86 329 0 5 h m0) (p1 : 0 ≤ p) (p2 : p < h 5 3) (hy : ∀ h', Fr (Swk 5) h h' → Wk 5 h p h' → Q 0 h') : qC tFA (d + 5) k_Walk_look [96, 5, 86, p] h Q := by
  have n1 := hT.1.2.1.2.1
  have n3 := hT.1.2.1.2.2.1
  refine qC_intro (TA_Walk_look_0 _ _ _ _ _ _ ?_)
  simp only [mmD_iff]
  refine ⟨by omega, by omega, ?_⟩
  refine lA_look hT hN p1 p2 hy (h 5 1).toNat 0 _ (by omega) (Int.le_refl _) ((((Fr.rf.put (Or.inr ⟨by omega, by omega⟩)).put (Or.inr ⟨by omega, by omega⟩)).put (Or.inr ⟨by omega, by omega⟩)).put (Or.inr ⟨by omega, by omega⟩)) ?_ ?_ ?_ ?_ (fun l l1 l2 => absurd l2 (by omega))
  · simp [mmS_slot]
  · simp [mmS_slot]
  · simp [mmS_slot]
  · rw [mmS_self, setOf_zero]
end LOA
section LOB
variable {d : Nat} {h : mmH} {Q : Int → mmH → Prop}
theorem pB_hopsFrom {s p a : Int} {m0 : mmH} (hT : Tn 46 1 h m0) (p1 : 0 ≤ p) (p2 : p < h 46 3) (a1 : 0 ≤ a) (a2 : a < h 46 1) (s1 : 0 ≤ s) (s2 : s ≤ 9) (hy : Q (setOf (h 46 1) (nearS 46 h s p a)) h) : qC tFB (d + 1) k_Walk_hopsFrom [46, s, p, a] h Q := by
  obtain ⟨hn, hl, -, hg, -, -⟩ := hT
  obtain ⟨-, ⟨n1, n2, n3, n4, n5⟩, -⟩ := hn
  refine qC_intro (TB_Walk_hopsFrom_0 _ _ _ _ _ _ _ _ ?_)
  simp (disch := omega) only [mmD_iff, mmG_iff, Bool.and_eq_true, Bool.or_eq_true, Nat.beq_refl, true_and, and_true, Option.getD_none, Option.isNone_none, decide_eq_true_eq, lc_lt0, lc_gt0, lc_le0, lc_ge0, lc_eq0, lc_ne0, ite_true, ite_false, fc_tFA_9, fn_tFA_9, fc_tFB_9, fn_tFB_9, sh_9, wn_9, fc_tFA_50, fn_tFA_50, fc_tFB_50, fn_tFB_50, sh_50, wn_50, fc_tFA_20, fn_tFA_20, fc_tFB_20, fn_tFB_20, sh_20, wn_20, fc_tFA_61, fn_tFA_61, fc_tFB_61, fn_tFB_61, sh_61, wn_61, fc_tFA_27, fn_tFA_27, fc_tFB_27, fn_tFB_27, sh_27, wn_27, fc_tFA_68, fn_tFA_68, fc_tFB_68, fn_tFB_68, sh_68, wn_68, fc_tFA_91, fn_tFA_91, fc_tFB_91, fn_tFB_91, sh_91, wn_91]
  refine ⟨by omega, by omega, by omega, by omega, ?_⟩
  refine upTo_go (P := fun i (b : Int) => ∀ w8 w9, qB tFB d k_Walk_hopsFrom (h 0 0) (h 0 1) Q 1 [(3, 46), (1, s), (1, p), (1, a), (1, h (62 + p) 1), (1, h (62 + p) 2), (1, b), (1, i), w8, w9] [] h) (f := fun l b => bif nearS 46 h s p a l then mOr b (mShl 1 l) else b) 0 (h 46 1) 0 (by omega) (fun i b i1 i2 hp w8 w9 => ?_) (fun w8 w9 => TB_Walk_hopsFrom_1 _ _ _ _ _ _ _ _ _ _ _ _ _ _ ⟨fun _ => hy, fun c => absurd (Int.le_refl _) c⟩) _ _
  have hli := hl i i1 i2
  have hla := hl a a1 a2
  have hgi := hg a i a1 a2 i1 i2
  simp only [Int.reduceAdd, Int.reduceMul] at hli hla hgi
  refine TB_Walk_hopsFrom_1 _ _ _ _ _ _ _ _ _ _ _ _ _ _ ⟨fun c => absurd c (by omega), fun _ => ?_⟩
  simp (disch := omega) only [mmD_iff, mmG_iff, Bool.and_eq_true, Bool.or_eq_true, Nat.beq_refl, true_and, and_true, Option.getD_none, Option.isNone_none, decide_eq_true_eq, lc_lt0, lc_gt0, lc_le0, lc_ge0, lc_eq0, lc_ne0, ite_true, ite_false, fc_tFA_9, fn_tFA_9, fc_tFB_9, fn_tFB_9, sh_9, wn_9, fc_tFA_50, fn_tFA_50, fc_tFB_50, fn_tFB_50, sh_50, wn_50, fc_tFA_20, fn_tFA_20, fc_tFB_20, fn_tFB_20, sh_20, wn_20, fc_tFA_61, fn_tFA_61, fc_tFB_61, fn_tFB_61, sh_61, wn_61, fc_tFA_27, fn_tFA_27, fc_tFB_27, fn_tFB_27, sh_27, wn_27, fc_tFA_68, fn_tFA_68, fc_tFB_68, fn_tFB_68, sh_68, wn_68, fc_tFA_91, fn_tFA_91, fc_tFB_91, fn_tFB_91, sh_91, wn_91]
  rw [mAdd_ok (a := i) (by omega) (by omega), mSub_ok (a := h (51 + i) 1) (by omega) (by omega), mSub_ok (a := h (69 + a) i) (by omega) (by omega)]
  refine ⟨by omega, by omega, by omega, by omega, by omega, by omega, ?_⟩
  unfold nearS at hp
  simp only [Int.reduceAdd] at hp
  refine ⟨fun c => ?_, fun c => ⟨fun c2 => ?_, fun c2 => ⟨fun c3 => ?_, fun c3 => ?_⟩⟩⟩
  · rw [decide_eq_false (by omega)] at hp; exact hp _ _
  · rw [decide_eq_false (by omega)] at hp; exact hp _ _
  · rw [decide_eq_false (by omega)] at hp; exact hp _ _
  · rw [decide_eq_true (by omega)] at hp; exact hp _ _
theorem lB_look {p : Int} {m0 : mmH} (hT : Tn 46 1 h m0) (hN : Nw 86 329 0 46 h m0) (p1 : 0 ≤ p) (p2 : p < h 46 3) (hy : ∀ h', Fr (Swk 46) h h' → Wk 46 h p h' → Q 0 h') :
    ∀ (m : Nat) (i : Int) (h' : mmH), i + m = h 46 1 → 0 ≤ i → Fr (Swk 46) h h' → h' 96 0 = h 46 1 → h' 96 1 = h 88 p → h' 96 2 = h 89 p → h' 96 3 = setOf i (opS 46 h p) →
      (∀ l, 0 ≤ l → l < i → h' 98 l = tollC 46 h p l (h 87 l) ∧ h' 97 l = setOf (h 46 1) (nearS 46 h (h 86 1) p l)) → qB tFB (d + 4) k_Walk_look (h 0 0) (h 0 1) Q 1 [(3, 96), (3, 46), (3, 86), (1, p), (1, i)] [] h'
  | 0, i, h', hi, hi0, hF, e0, e1, e2, e3, el => by
    have : i = h 46 1 := by omega
    subst this
    exact TB_Walk_look_1 _ _ _ _ _ _ _ ⟨fun _ => hy h' hF ⟨e0, e1, e2, e3, el⟩, fun c => absurd (by omega) c⟩
  | m + 1, i, h', hi, hi0, hF, e0, e1, e2, e3, el => by
    have huv : (((46 : Int) = 5 ∧ (5 : Int) = 46) ∨ ((46 : Int) = 46 ∧ (5 : Int) = 5)) := by decide
    have hS : Fr (ScC 5) h h' := hF.mono (fun _ _ q => Swk_ScC huv q)
    have n1 := hT.1.2.1.2.1
    have n3 := hT.1.2.1.2.2.1
    have hti := hN.2.2.2.1 i hi0 (by omega)
    have hsn := hN.2.1
    simp only [Int.reduceAdd] at hti hsn
    have c87 : ∀ j, h' 87 j = h 87 j := fun j => hF 87 j (by unfold Swk Sct; omega)
    have c86 : ∀ j, h' 86 j = h 86 j := fun j => hF 86 j (by unfold Swk Sct; omega)
    have hTe : tollC 46 h' p i (h 87 i) = tollC 46 h p i (h 87 i) := tollC_eq (fun k j q => hF k j (by unfold Swk Sct; omega)) p1 (by omega) hi0 (by omega)
    refine TB_Walk_look_1 _ _ _ _ _ _ _ ⟨fun c => absurd c (by omega), fun _ => ?_⟩
    simp only [mmD_iff]
    refine ⟨by omega, ?_⟩
    rw [c87 i]
    refine pB_tollAt (Tn_frC huv hS hT) (by rw [c86]; exact hN.1.2) p1 (by rw [hF 46 3 (by unfold Swk Sct; omega)]; exact p2) hi0 (by rw [hF 46 1 (by unfold Swk Sct; omega)]; omega) hti.2.1 hti.2.2 (fun h1 f1 => ?_)
    rw [hTe]
    have F1 : Fr (Swk 46) h h1 := hF.tr (f1.mono (fun _ _ q => Or.inl q))
    have d87 : ∀ j, h1 87 j = h 87 j := fun j => F1 87 j (by unfold Swk Sct; omega)
    have d86 : ∀ j, h1 86 j = h 86 j := fun j => F1 86 j (by unfold Swk Sct; omega)
    have d96 : ∀ j, h1 96 j = h' 96 j := fun j => f1 96 j (by unfold Sct; omega)
    have d97 : ∀ j, h1 97 j = h' 97 j := fun j => f1 97 j (by unfold Sct; omega)
    have d98 : ∀ j, h1 98 j = h' 98 j := fun j => f1 98 j (by unfold Sct; omega)
    rw [d87, d86, mmS_self]
    refine ⟨by omega, by omega, ?_⟩
    -- behind the hops
    have fin : ∀ h2 : mmH, Fr (Swk 46) h h2 → (∀ j, h2 96 j = if j = 3 then setOf (i + 1) (opS 46 h p) else h' 96 j) → (∀ j, h2 97 j = h' 97 j) → (∀ j, h2 98 j = if j = i then tollC 46 h p i (h 87 i) else h' 98 j) →
        qC tFB (d + 4) k_Walk_hopsFrom [46, h 86 1, p, i] h2 (fun x2 h2 => (0 ≤ i ∧ i < ((10 : Nat) : Int)) ∧ qB tFB (d + 4) k_Walk_look (h 0 0) (h 0 1) Q 1 [(3, 96), (3, 46), (3, 86), (1, p), (1, mAdd i 1)] [] (mmS h2 97 i x2)) := by
      intro h2 F2 g96 g97 g98
      have hS2 : Fr (ScC 5) h h2 := F2.mono (fun _ _ q => Swk_ScC huv q)
      refine pB_hopsFrom (Tn_frC huv hS2 hT) p1 (by rw [F2 46 3 (by unfold Swk Sct; omega)]; exact p2) hi0 (by rw [F2 46 1 (by unfold Swk Sct; omega)]; omega) hsn.2.1 hsn.2.2 ⟨by omega, ?_⟩
      rw [mAdd_ok (a := i) (by omega) (by omega), F2 46 1 (by unfold Swk Sct; omega)]
      refine lB_look hT hN p1 p2 hy m (i + 1) _ (by omega) (by omega) (F2.put (Or.inr ⟨by omega, by omega⟩)) ?_ ?_ ?_ ?_ (fun l l1 l2 => ?_)
      · rw [mmS_cell (by omega), g96, if_neg (by omega)]; exact e0
      · rw [mmS_cell (by omega), g96, if_neg (by omega)]; exact e1
      · rw [mmS_cell (by omega), g96, if_neg (by omega)]; exact e2
      · rw [mmS_cell (by omega), g96, if_pos rfl]
      · rw [mmS_cell (by omega), mmS_slot, g98, g97]
        by_cases ei : l = i
        · subst ei
          rw [if_pos rfl, if_pos rfl]
          exact ⟨rfl, setOf_congr (fun b b1 b2 => nearS_eq (fun k j q => F2 k j (by unfold Swk Sct; omega)) p1 (by omega) hi0 (by omega) b1 (by omega))⟩
        · rw [if_neg ei, if_neg ei]
          exact el l l1 (by omega)
    have no : opS 46 h p i = false → qC tFB (d + 4) k_Walk_hopsFrom [46, h 86 1, p, i] (mmS h1 98 i (tollC 46 h p i (h 87 i))) (fun x2 h2 => (0 ≤ i ∧ i < ((10 : Nat) : Int)) ∧ qB tFB (d + 4) k_Walk_look (h 0 0) (h 0 1) Q 1 [(3, 96), (3, 46), (3, 86), (1, p), (1, mAdd i 1)] [] (mmS h2 97 i x2)) := by
      intro hop
      refine fin _ (F1.put (Or.inr ⟨by omega, by omega⟩)) (fun j => ?_) (fun j => ?_) (fun j => ?_)
      · rw [mmS_cell (by omega), d96, setOf_succ _ hi0, hop]
        by_cases ej : j = 3
        · rw [if_pos ej, ej, e3]; rfl
        · rw [if_neg ej]
      · rw [mmS_cell (by omega), d97]
      · rw [mmS_slot, d98]
    refine ⟨fun c => no ?_, fun c => ⟨by omega, fun c2 => no ?_, fun c2 => ?_⟩⟩
    · unfold opS; exact decide_eq_false (fun q => by omega)
    · unfold opS; exact decide_eq_false (fun q => q.2 c2)
    · have hop : opS 46 h p i = true := by unfold opS; exact decide_eq_true ⟨by omega, c2⟩
      refine fin _ ((F1.put (Or.inr ⟨by omega, by omega⟩)).put (Or.inr ⟨by omega, by omega⟩)) (fun j => ?_) (fun j => ?_) (fun j => ?_)
      · rw [mmS_slot, mmS_cell (by omega), d96, setOf_succ _ hi0, hop]
        by_cases ej : j = 3
        · rw [if_pos ej, if_pos ej, e3]; rfl
        · rw [if_neg ej, if_neg ej, d96]
      · rw [mmS_cell (by omega), mmS_cell (by omega), d97]
      · rw [mmS_cell (by omega), mmS_slot, d98]
theorem pB_look {p : Int} {m0 : mmH} (hT : Tn 46 1 h m0) (hN : Nw 86 329 0 46 h m0) (p1 : 0 ≤ p) (p2 : p < h 46 3) (hy : ∀ h', Fr (Swk 46) h h' → Wk 46 h p h' → Q 0 h') : qC tFB (d + 5) k_Walk_look [96, 46, 86, p] h Q := by
  have n1 := hT.1.2.1.2.1
  have n3 := hT.1.2.1.2.2.1
  refine qC_intro (TB_Walk_look_0 _ _ _ _ _ _ ?_)
  simp only [mmD_iff]
  refine ⟨by omega, by omega, ?_⟩
  refine lB_look hT hN p1 p2 hy (h 46 1).toNat 0 _ (by omega) (Int.le_refl _) ((((Fr.rf.put (Or.inr ⟨by omega, by omega⟩)).put (Or.inr ⟨by omega, by omega⟩)).put (Or.inr ⟨by omega, by omega⟩)).put (Or.inr ⟨by omega, by omega⟩)) ?_ ?_ ?_ ?_ (fun l l1 l2 => absurd l2 (by omega))
  · simp [mmS_slot]
  · simp [mmS_slot]
  · simp [mmS_slot]
  · rw [mmS_self, setOf_zero]
end LOB
