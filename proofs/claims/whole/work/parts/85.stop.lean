/-! ===== mm: the fewest tiles taken, laid ===== -/
theorem tb_lt {s n l : Int} (hn : 0 ≤ n) (hn2 : n ≤ 30) (s0 : 0 ≤ s) (s1 : s < mShl 1 n) (l1 : n ≤ l) (l2 : l < 32) : tb s l = false := by
  rw [mShl1_eq hn (by omega)] at s1
  have hp : (2 : Int) ^ n.toNat = ((2 ^ n.toNat : Nat) : Int) := by simp
  rw [hp] at s1
  have h30 : 2 ^ n.toNat ≤ 2 ^ 30 := Nat.pow_le_pow_right (by omega) (by omega)
  rw [tb_nat s0 (by omega) (by omega) l2]
  refine Nat.testBit_lt_two_pow (Nat.lt_of_lt_of_le (show s.toNat < 2 ^ n.toNat by omega) (Nat.pow_le_pow_right (by omega) (by omega)))
theorem pc_cN : ∀ a : Fin 1024, pcN a.val = cN (tb (a.val : Int)) 10 := by decide +kernel
theorem pc_lt {s m : Int} (s0 : 0 ≤ s) (s1 : s < 1024) (m0 : 0 ≤ m) (m1 : m < 1024) (hne : mAnd s m ≠ s) : 0 ≤ mAnd s m ∧ mAnd s m < s ∧ pc (mAnd s m) < pc s := by
  have hle := mAnd_le (b := m) s0 m0 (by omega) (by omega)
  have h1 := pc_cN ⟨s.toNat, by omega⟩
  have h2 := pc_cN ⟨(mAnd s m).toNat, by omega⟩
  simp only [] at h1 h2
  rw [show ((s.toNat : Nat) : Int) = s by omega] at h1
  rw [show (((mAnd s m).toNat : Nat) : Int) = mAnd s m by omega] at h2
  have hex : ∃ l, 0 ≤ l ∧ l < 32 ∧ tb s l = true ∧ tb (mAnd s m) l = false := by
    refine Classical.byContradiction (fun q => hne ?_)
    refine tb_ext (InI_and _ _) ⟨by omega, by omega⟩ (fun l l1 l2 => ?_)
    cases e : tb (mAnd s m) l with
    | true => rw [tb_and, Bool.and_eq_true] at e; exact e.1.symm
    | false =>
      cases e2 : tb s l with
      | false => rfl
      | true => exact absurd ⟨l, l1, l2, e2, e⟩ q
  obtain ⟨l, l1, l2, e1, e2⟩ := hex
  have hl : l < 10 := by
    refine Classical.byContradiction (fun q => ?_)
    have : tb s l = false := tb_lt (n := 10) (by omega) (by omega) s0 (by rw [mShl1_eq (by omega) (by omega)]; simpa using s1) (by omega) l2
    rw [this] at e1; cases e1
  have := cN_lt (p := tb (mAnd s m)) (q := tb s) (y := l) 10 (fun x x1 x2 e => by rw [tb_and, Bool.and_eq_true] at e; exact e.1) l1 (by omega) e2 e1
  unfold pc
  omega
section BE
variable {okM okO : Int → Bool} {cost : Int → Int}
theorem bst_eq (hsub : ∀ s, okO s = true → okM s = true) : ∀ (n : Nat) (k best : Int), 0 ≤ k → (∀ s, 0 ≤ s → s < k + n → okM s = true → okO s = false → ∃ t, 0 ≤ t ∧ t < s ∧ okO t = true ∧ cost t < cost s) → (∀ t, 0 ≤ t → t < k → okO t = true → best ≠ -1 ∧ cost best ≤ cost t) → bstF okM cost n k best = bstF okO cost n k best
  | 0, _, _, _, _, _ => rfl
  | n + 1, k, best, hk, hmin, hI => by
    rw [bstF_succ, bstF_succ]
    have e : (if (best = -1 ∨ cost k < cost best) ∧ okM k = true then k else best) = (if (best = -1 ∨ cost k < cost best) ∧ okO k = true then k else best) := by
      cases hO : okO k with
      | true => rw [hsub k hO]
      | false =>
        cases hM : okM k with
        | false => rfl
        | true =>
          obtain ⟨t, t1, t2, t3, t4⟩ := hmin k hk (by omega) hM hO
          have := hI t t1 t2 t3
          rw [if_neg (by omega), if_neg (by simp)]
    rw [e]
    refine bst_eq hsub n (k + 1) _ (by omega) (fun s s1 s2 => hmin s s1 (by omega)) (fun t t1 t2 t3 => ?_)
    by_cases c : (best = -1 ∨ cost k < cost best) ∧ okO k = true
    · rw [if_pos c]
      by_cases et : t = k
      · subst et; exact ⟨by omega, Int.le_refl _⟩
      · have := hI t t1 (by omega) t3
        omega
    · rw [if_neg c]
      by_cases et : t = k
      · subst et
        have : ¬ (best = -1 ∨ cost t < cost best) := fun q => c ⟨q, t3⟩
        omega
      · exact hI t t1 (by omega) t3
end BE
section DC
variable {n : Int} {E E' : Int → Int → Bool} {w w' : Int → Int} {last : Int}
theorem dis_congr2 (hE : ∀ a b, 0 ≤ a → a < n → 0 ≤ b → b < n → E a b = E' a b) (hw : ∀ a b, 0 ≤ a → a < n → 0 ≤ b → b < n → E a b = true → w b = w' b) : dis n E w last = dis n E' w' last := by
  unfold dis rxs
  refine upI_congr _ _ _ (fun _ V' _ _ => ?_)
  unfold rxRnd
  refine upTo_congr (fun a V'' a1 a2 => ?_)
  unfold rxRow
  refine upTo_congr (fun b V3 b1 b2 => ?_)
  unfold rx
  rw [← hE a b a1 a2 b1 b2]
  cases e : E a b with
  | false => simp
  | true => rw [hw a b a1 a2 b1 b2 e]
end DC
noncomputable def keptV (u : Int) (g : mmH) (p : Int) : Int := setOf (g u 1) (fun l => decide (g (u + 5 + l) 4 = 1 ∨ l = g 88 p ∨ l = g 89 p))
noncomputable def tilesIn (u : Int) (g : mmH) (s : Int) : Int := upTo (fun l a => bif tb s l then mAdd a (g 87 l) else a) 0 (g u 1) 0
noncomputable def stopF (u : Int) (g : mmH) (p : Int) : Int := bstF (fun s => decide (mAnd s (keptV u g p) = 0) && !okG u g p s 0 31) (tilesIn u g) (mShl 1 (g u 1)).toNat 0 (-1)
noncomputable def stopV (u : Int) (g : mmH) (best a : Int) : Int := if best = -1 then -1 else if a = 0 then tilesIn u g best else best
noncomputable def useV (u : Int) (g : mmH) (p : Int) : Int := setOf (g u 1) (fun l => decide (g 87 l = 0 ∧ tollC u g p l 1 ≠ -1))
noncomputable def okO (u : Int) (g : mmH) (p m s : Int) : Bool := decide (mAnd s (mXor m (-1)) = 0) && okG u g p 0 s 31
noncomputable def openF (u : Int) (g : mmH) (p : Int) : Int := bstF (okO u g p (useV u g p)) pc (mShl 1 (g u 1)).toNat 0 (-1)
theorem and_not_tb {s m : Int} : mAnd s (mXor m (-1)) = 0 ↔ ∀ l, 0 ≤ l → l < 32 → tb s l = true → tb m l = true := by
  constructor
  · intro h l l1 l2 e
    have := tb_zero l
    rw [← h, tb_and, tb_not l1 l2, e] at this
    cases q : tb m l with
    | true => rfl
    | false => rw [q] at this; cases this
  · intro h
    refine tb_ext (InI_and _ _) ⟨by omega, by omega⟩ (fun l l1 l2 => ?_)
    rw [tb_and, tb_not l1 l2, tb_zero]
    cases e : tb s l with
    | false => rfl
    | true => rw [h l l1 l2 e]; rfl
theorem okG_congr {u : Int} {g : mmH} {p gone op ow gone' op' ow' : Int} (hE : ∀ b, 0 ≤ b → b < g u 1 → cnS u g p gone op ow b = cnS u g p gone' op' ow' b) (hw : ∀ b, 0 ≤ b → b < g u 1 → cnS u g p gone op ow b = true → tlS g gone op b = tlS g gone' op' b) : okG u g p gone op ow = okG u g p gone' op' ow' := by
  unfold okG dG
  rw [dis_congr2 (E' := eG u g p gone' op' ow' (-1) (-1)) (w' := wG u g p gone' op') (fun a b a1 a2 b1 b2 => by unfold eG; rw [hE b b1 b2]) (fun a b a1 a2 b1 b2 e => ?_)]
  unfold eG at e
  simp only [Bool.and_eq_true] at e
  unfold wG
  rw [hw b b1 b2 e.1.2]
/-- laying tiles where he is barred all the same is of no use -/
theorem open_eq {u : Int} {g h : mmH} {p : Int} (hT : Tn u 1 g h) : bstF (okO u g p (holesV u g)) pc (mShl 1 (g u 1)).toNat 0 (-1) = openF u g p := by
  have n1 := hT.1.2.1.2.1
  have hN := pow_1024 n1.1 n1.2
  have tU : ∀ l, 0 ≤ l → l < 32 → (tb (useV u g p) l = true ↔ l < g u 1 ∧ g 87 l = 0 ∧ tollC u g p l 1 ≠ -1) := fun l l1 l2 => by
    unfold useV; rw [setOf_tb n1.1 (by omega) l1 l2]; simp
  have tH : ∀ l, 0 ≤ l → l < 32 → (tb (holesV u g) l = true ↔ l < g u 1 ∧ g 87 l = 0) := fun l l1 l2 => by
    unfold holesV; rw [setOf_tb n1.1 (by omega) l1 l2]; simp
  have hlU := setOf_lt (p := fun l => decide (g 87 l = 0 ∧ tollC u g p l 1 ≠ -1)) n1.1 n1.2
  refine bst_eq (fun s e => ?_) _ _ _ (Int.le_refl _) (fun s s1 s2 eM eO => ?_) (fun t t1 t2 _ => absurd t2 (by omega))
  · unfold okO at e ⊢
    simp only [Bool.and_eq_true, decide_eq_true_eq] at e ⊢
    refine ⟨and_not_tb.mpr (fun l l1 l2 q => (tH l l1 l2).mpr ?_), e.2⟩
    have := (tU l l1 l2).mp (and_not_tb.mp e.1 l l1 l2 q)
    exact ⟨this.1, this.2.1⟩
  · unfold okO at eM eO
    simp only [Bool.and_eq_true, decide_eq_true_eq] at eM
    have hsH := and_not_tb.mp eM.1
    have hne : mAnd s (useV u g p) ≠ s := by
      intro q
      have : mAnd s (mXor (useV u g p) (-1)) = 0 := and_not_tb.mpr (fun l l1 l2 e => by rw [← q, tb_and, Bool.and_eq_true] at e; exact e.2)
      rw [decide_eq_true this, eM.2] at eO
      cases eO
    obtain ⟨q1, q2, q3⟩ := pc_lt s1 (by omega) hlU.1 hlU.2 hne
    refine ⟨mAnd s (useV u g p), q1, q2, ?_, q3⟩
    unfold okO
    rw [decide_eq_true (and_not_tb.mpr (fun l l1 l2 e => by rw [tb_and, Bool.and_eq_true] at e; exact e.2)), Bool.true_and, ← eM.2]
    have tl : ∀ b, 0 ≤ b → b < g u 1 → tb s b = true → tb (useV u g p) b = false → tollC u g p b 1 = -1 := fun b b1 b2 e e2 => by
      refine Classical.byContradiction (fun z => ?_)
      have := (tU b b1 (by omega)).mpr ⟨b2, (tH b b1 (by omega)).mp (hsH b b1 (by omega) e) |>.2, z⟩
      rw [e2] at this; cases this
    have key : ∀ b, 0 ≤ b → b < g u 1 → cnS u g p 0 (mAnd s (useV u g p)) 31 b = cnS u g p 0 s 31 b ∧ (cnS u g p 0 (mAnd s (useV u g p)) 31 b = true → tlS g 0 (mAnd s (useV u g p)) b = tlS g 0 s b) := by
      intro b b1 b2
      unfold cnS tlS
      simp only [tb_zero, Bool.false_eq_true, ite_false, tb_and]
      cases e : tb s b with
      | false => simp
      | true =>
        cases e2 : tb (useV u g p) b with
        | true => simp
        | false =>
          have hb := (tH b b1 (by omega)).mp (hsH b b1 (by omega) e)
          rw [hb.2]
          have := tl b b1 b2 e e2
          simp [this]
    exact okG_congr (fun b b1 b2 => (key b b1 b2).1) (fun b b1 b2 => (key b b1 b2).2)
section TM2
variable {d : Nat} {u : Int} {g h : mmH} {Q : Int → mmH → Prop}
theorem q_m_tilesBy {s : Int} (h1 : 0 ≤ h 313 6) (h2 : h 313 6 ≤ 10) (hy : Q (upTo (fun l a => bif tb s l then mAdd a (h 329 (2 + l)) else a) 0 (h 313 6) 0) h) : qC tFM (d + 2) k_m_tilesBy [282, s] h Q := by
  refine qC_intro (T_m_tilesBy_0 _ _ _ _ _ _ ?_)
  refine upTo_go (P := fun i (a : Int) => qB tFM (d + 1) k_m_tilesBy (h 0 0) (h 0 1) Q 1 [(3, 282), (1, s), (1, a), (1, i)] [] h) (f := fun l a => bif tb s l then mAdd a (h 329 (2 + l)) else a) 0 (h 313 6) 0 h1 (fun i a i1 i2 hp => ?_) (T_m_tilesBy_1 _ _ _ _ _ _ _ _ (q_m_lotMany ⟨fun _ => hy, fun c => absurd (Int.le_refl _) c⟩))
  refine T_m_tilesBy_1 _ _ _ _ _ _ _ _ (q_m_lotMany ⟨fun c => absurd c (by omega), fun _ => ?_⟩)
  rw [mAdd_ok (a := i) (by omega) (by omega), Ne, bit_is i1 (by omega)]
  refine ⟨fun c => ?_, fun c => q_m_tilesOf i1 (by omega) ?_⟩
  · rw [Bool.eq_false_iff.mpr c] at hp; exact hp
  · rw [Decidable.of_not_not c] at hp; exact hp
end TM2
section SOA
variable {d : Nat} {h m0 : mmH} {Q : Int → mmH → Prop}
theorem pA_storks (hT : Tn 5 1 h m0) (hy : ∀ x, (∀ l, 0 ≤ l → l < 32 → tb x l = (decide (l < h 5 1) && decide (h (10 + l) 4 = 1))) → Q x h) : qC tFA (d + 1) k_Town_storks [5] h Q := by
  have n1 := hT.1.2.1.2.1
  refine qC_intro (TA5_Town_storks_0 _ _ _ _ _ ?_)
  have key : ∀ (m : Nat) (i b : Int), i + m = h 5 1 → 0 ≤ i → (∀ l, 0 ≤ l → l < 32 → tb b l = (decide (l < i) && decide (h (10 + l) 4 = 1))) → qB tFA d k_Town_storks (h 0 0) (h 0 1) Q 1 [(3, 5), (1, b), (1, i)] [] h := by
    intro m
    induction m with
    | zero =>
      intro i b hi i0 hb
      have : i = h 5 1 := by omega
      subst this
      exact TA5_Town_storks_1 _ _ _ _ _ _ _ ⟨fun _ => hy b hb, fun c => absurd (Int.le_refl _) c⟩
    | succ m ih =>
      intro i b hi i0 hb
      have hl := (hT.2.1 i i0 (by omega)).2.2.2.2
      simp only [Int.reduceAdd] at hl
      refine TA5_Town_storks_1 _ _ _ _ _ _ _ ⟨fun c => absurd c (by omega), fun _ => ?_⟩
      simp (disch := omega) only [mmD_iff, mmG_iff, Bool.and_eq_true, Bool.or_eq_true, Nat.beq_refl, true_and, and_true, Option.getD_none, Option.isNone_none, decide_eq_true_eq, lc_lt0, lc_gt0, lc_le0, lc_ge0, lc_eq0, lc_ne0, ite_true, ite_false, fc_tFA_9, fn_tFA_9, fc_tFB_9, fn_tFB_9, sh_9, wn_9, fc_tFA_50, fn_tFA_50, fc_tFB_50, fn_tFB_50, sh_50, wn_50, fc_tFA_20, fn_tFA_20, fc_tFB_20, fn_tFB_20, sh_20, wn_20, fc_tFA_61, fn_tFA_61, fc_tFB_61, fn_tFB_61, sh_61, wn_61, fc_tFA_27, fn_tFA_27, fc_tFB_27, fn_tFB_27, sh_27, wn_27, fc_tFA_68, fn_tFA_68, fc_tFB_68, fn_tFB_68, sh_68, wn_68, fc_tFA_91, fn_tFA_91, fc_tFB_91, fn_tFB_91, sh_91, wn_91]
      rw [mAdd_ok (a := i) (by omega) (by omega)]
      refine ⟨by omega, by omega, ih (i + 1) _ (by omega) (by omega) (fun l l1 l2 => ?_)⟩
      rw [tb_or, hb l l1 l2]
      have hst : h (10 + i) 4 = 0 ∨ h (10 + i) 4 = 1 := by omega
      rcases hst with e | e
      · rw [e, tb_shl i0 (by omega) l1 l2, tb_zero, Bool.and_false, Bool.or_false]
        by_cases el : l = i
        · subst el; rw [e]; simp
        · by_cases e3 : l < i
          · rw [decide_eq_true e3, decide_eq_true (show l < i + 1 by omega)]
          · rw [decide_eq_false e3, decide_eq_false (show ¬ l < i + 1 by omega)]
      · rw [e, tb_shl1 i0 (by omega) l1 l2]
        by_cases el : l = i
        · subst el; rw [e, decide_eq_true (show l < l + 1 by omega)]; simp
        · by_cases e3 : l < i
          · rw [decide_eq_true e3, decide_eq_true (show l < i + 1 by omega), decide_eq_false el]; simp
          · rw [decide_eq_false e3, decide_eq_false (show ¬ l < i + 1 by omega), decide_eq_false el]; simp
  exact key (h 5 1).toNat 0 0 (by omega) (Int.le_refl _) (fun l l1 l2 => by rw [tb_zero, decide_eq_false (by omega)]; rfl)
theorem tilesOf_inA {s : Int} (n1 : 0 ≤ h 5 1 ∧ h 5 1 ≤ 10) (s0 : 0 ≤ s) (s1 : s < mShl 1 (h 5 1)) : upTo (fun l a => bif tb s l then mAdd a (h 87 l) else a) 0 10 0 = tilesIn 5 h s :=
  upTo_skip n1.1 n1.2 (fun i a i1 i2 => by rw [tb_lt n1.1 (by omega) s0 s1 i1 (by omega)]; rfl)
theorem aA_stopped {p a : Int} (hC : Cp 5 h m0) (hy : ∀ x h', Fr (Sw3 5) h h' → x = (if (0 ≤ p ∧ p < h 5 3) ∧ (a = 0 ∨ a = 1) then stopV 5 h (stopF 5 h p) a else -1) → Q x h') : qC tFA (d + 6) k_c_stopped [1, p, a] h Q := by
  have n1 := hC.T.1.2.1.2.1
  have n3 := hC.T.1.2.1.2.2.1
  refine qC_intro (TA_c_stopped_0 _ _ _ _ _ _ _ ⟨fun c => hy _ _ Fr.rf (by rw [if_neg (by omega)]), fun c => ⟨fun c2 => hy _ _ Fr.rf (by rw [if_neg (by omega)]), fun c2 => pA_isPerson (fun x hx => ⟨fun c3 => ?_, fun c3 => hy _ _ Fr.rf (by rw [if_neg (fun q => hx.neg (Decidable.of_not_not c3) q.1)])⟩)⟩⟩)
  obtain ⟨p1, p2⟩ := hx.pos c3
  obtain ⟨hs, hg, -, -, -⟩ := Nw_at hC.N p1 p2
  refine pA_look hC.T hC.N p1 p2 (fun h1 f1 hW => ?_)
  have hT1 : Tn 5 1 h1 m0 := Tn_frC (v := 46) (by decide) (f1.mono (fun _ _ q => Swk_ScC (by decide) q)) hC.T
  have f3 : Fr (Sw3 5) h h1 := f1.mono (fun k i q => by rcases q with q | q; exact Or.inl q; exact Or.inr (by omega))
  have e1 : h1 5 1 = h 5 1 := f1 5 1 (by unfold Swk Sct; omega)
  have hN := pow_1024 n1.1 n1.2
  refine pA_storks hT1 (fun st hst => ?_)
  have hK : mOr (mOr st (mShl 1 (h1 88 p))) (mShl 1 (h1 89 p)) = keptV 5 h p := by
    refine tb_ext (InI_or _ _) (setOf_InI _ _ n1.1) (fun l l1 l2 => ?_)
    unfold keptV
    rw [setOf_tb n1.1 (by omega) l1 l2, tb_or, tb_or, hst l l1 l2, e1, f1 (10 + l) 4 (by unfold Swk Sct; omega), f1 88 p (by unfold Swk Sct; omega), f1 89 p (by unfold Swk Sct; omega), tb_shl1 hs.1 (by omega) l1 l2, tb_shl1 hg.1 (by omega) l1 l2]
    simp only [Int.reduceAdd]
    rw [Bool.eq_iff_iff]
    simp only [Bool.or_eq_true, Bool.and_eq_true, decide_eq_true_eq]
    constructor
    · rintro ((⟨q1, q2⟩ | q) | q)
      · exact ⟨q1, Or.inl q2⟩
      · exact ⟨by omega, Or.inr (Or.inl q)⟩
      · exact ⟨by omega, Or.inr (Or.inr q)⟩
    · rintro ⟨q1, q2 | q2 | q2⟩
      · exact Or.inl (Or.inl ⟨q1, q2⟩)
      · exact Or.inl (Or.inr q2)
      · exact Or.inr q2
  rw [hK]
  refine mmD_of (by omega) (mmD_of (by omega) ?_)
  have g87 : ∀ l, h1 87 l = h 87 l := fun l => f1 87 l (by unfold Swk Sct; omega)
  have key : ∀ (m : Nat) (k best fw : Int) (w7 : mmV), k + m = mShl 1 (h 5 1) → 0 ≤ k → (best = -1 ∨ (0 ≤ best ∧ best < k ∧ fw = tilesIn 5 h best)) → bstF (fun s => decide (mAnd s (keptV 5 h p) = 0) && !okG 5 h p s 0 31) (tilesIn 5 h) m k best = stopF 5 h p → qB tFA (d + 5) k_c_stopped (h 0 0) (h 0 1) Q 3 [(3, 1), (1, p), (1, a), (1, keptV 5 h p), (1, best), (1, fw), (1, k), w7] [] h1 := by
    intro m
    induction m with
    | zero =>
      intro k best fw w7 hk k0 hb he
      have he2 : best = stopF 5 h p := he
      have hy2 : ∀ x, x = stopV 5 h best a → Q x h1 := fun x q => hy x h1 f3 (by rw [if_pos ⟨⟨p1, p2⟩, by omega⟩, ← he2]; exact q)
      unfold stopV at hy2
      refine TA_c_stopped_3 _ _ _ _ _ _ _ _ _ _ _ _ ⟨fun _ => ⟨fun c4 => hy2 _ (by rw [if_pos c4]; exact c4), fun c4 => ⟨fun c5 => hy2 _ (by rw [if_neg c4, if_pos (by omega)]; exact (hb.resolve_left c4).2.2), fun c5 => hy2 _ (by rw [if_neg c4, if_neg (by omega)])⟩⟩, fun c => absurd (by rw [e1]; omega) c⟩
    | succ m ih =>
      intro k best fw w7 hk k0 hb he
      rw [bstF_succ] at he
      refine TA_c_stopped_3 _ _ _ _ _ _ _ _ _ _ _ _ ⟨fun c => absurd c (by rw [e1]; omega), fun _ => ?_⟩
      rw [mAdd_ok (a := k) (by omega) (by omega)]
      refine ⟨fun c4 => ih (k + 1) best fw _ (by omega) (by omega) (by omega) (by rw [if_neg (fun q => by have := q.2; rw [decide_eq_false c4] at this; cases this)] at he; exact he), fun c4 => pA_tilesOf ?_⟩
      have c4 := Decidable.of_not_not c4
      have ht : upTo (fun l s => bif tb k l then mAdd s (h1 87 l) else s) 0 10 0 = tilesIn 5 h k := by
        rw [← tilesOf_inA n1 k0 (by omega)]
        exact upTo_congr (fun i s _ _ => by rw [g87])
      rw [ht]
      have b4 : (best = -1 ∨ tilesIn 5 h k < tilesIn 5 h best) → qB tFA (d + 5) k_c_stopped (h 0 0) (h 0 1) Q 4 [(3, 1), (1, p), (1, a), (1, keptV 5 h p), (1, best), (1, fw), (1, k), (1, tilesIn 5 h k)] [] h1 := by
        intro hs0
        refine TA_c_stopped_4 _ _ _ _ _ _ _ _ _ _ _ _ (pA_arr (g := h) (p := p) (gone := k) (op := 0) (ow := 31) n1 hs hg hW (fun b b1 b2 => ?_) (fun z hz => ?_))
        · have hob := (hC.T.2.1 b b1 b2).1
          have h31 := cnS_all (g := h) (u := 5) (p := p) (l := b) ⟨hob.2.1, by have := hC.T.1.2.1.1; omega⟩
          rw [tb_and, hW.2.2.2.1, setOf_tb n1.1 (by omega) b1 (by omega), decide_eq_true b2, tb_not b1 (by omega), ← h31]
          unfold cnS tlS
          rw [tb_zero]
          cases e : tb k b <;> simp
        · rw [mAdd_ok (a := k) (by omega) (by omega)]
          refine ⟨fun c5 => ih (k + 1) best fw _ (by omega) (by omega) (by omega) (by rw [if_neg (fun q => by have := q.2; rw [hz.pos c5] at this; simp at this)] at he; exact he), fun c5 => ih (k + 1) k _ _ (by omega) (by omega) (Or.inr ⟨k0, by omega, rfl⟩) ?_⟩
          have hno : okG 5 h p k 0 31 = false := by
            cases e : okG 5 h p k 0 31 with
            | false => rfl
            | true => exact absurd e (hz.neg (Decidable.of_not_not c5))
          rw [if_pos ⟨hs0, by rw [decide_eq_true c4, hno]; rfl⟩] at he
          exact he
      refine ⟨fun c5 => b4 (Or.inl c5), fun c5 => ?_⟩
      have hfw := (hb.resolve_left c5).2.2
      exact ⟨fun c6 => ih (k + 1) best fw _ (by omega) (by omega) (by omega) (by rw [if_neg (fun q => by omega)] at he; exact he), fun c6 => b4 (Or.inr (by omega))⟩
  exact key (mShl 1 (h 5 1)).toNat 0 (-1) 0 _ (by omega) (Int.le_refl _) (Or.inl rfl) rfl
end SOA
section SOB
variable {d : Nat} {h m0 : mmH} {Q : Int → mmH → Prop}
theorem pB_storks (hT : Tn 46 1 h m0) (hy : ∀ x, (∀ l, 0 ≤ l → l < 32 → tb x l = (decide (l < h 46 1) && decide (h (51 + l) 4 = 1))) → Q x h) : qC tFB (d + 1) k_Town_storks [46] h Q := by
  have n1 := hT.1.2.1.2.1
  refine qC_intro (TB46_Town_storks_0 _ _ _ _ _ ?_)
  have key : ∀ (m : Nat) (i b : Int), i + m = h 46 1 → 0 ≤ i → (∀ l, 0 ≤ l → l < 32 → tb b l = (decide (l < i) && decide (h (51 + l) 4 = 1))) → qB tFB d k_Town_storks (h 0 0) (h 0 1) Q 1 [(3, 46), (1, b), (1, i)] [] h := by
    intro m
    induction m with
    | zero =>
      intro i b hi i0 hb
      have : i = h 46 1 := by omega
      subst this
      exact TB46_Town_storks_1 _ _ _ _ _ _ _ ⟨fun _ => hy b hb, fun c => absurd (Int.le_refl _) c⟩
    | succ m ih =>
      intro i b hi i0 hb
      have hl := (hT.2.1 i i0 (by omega)).2.2.2.2
      simp only [Int.reduceAdd] at hl
      refine TB46_Town_storks_1 _ _ _ _ _ _ _ ⟨fun c => absurd c (by omega), fun _ => ?_⟩
      simp (disch := omega) only [mmD_iff, mmG_iff, Bool.and_eq_true, Bool.or_eq_true, Nat.beq_refl, true_and, and_true, Option.getD_none, Option.isNone_none, decide_eq_true_eq, lc_lt0, lc_gt0, lc_le0, lc_ge0, lc_eq0, lc_ne0, ite_true, ite_false, fc_tFA_9, fn_tFA_9, fc_tFB_9, fn_tFB_9, sh_9, wn_9, fc_tFA_50, fn_tFA_50, fc_tFB_50, fn_tFB_50, sh_50, wn_50, fc_tFA_20, fn_tFA_20, fc_tFB_20, fn_tFB_20, sh_20, wn_20, fc_tFA_61, fn_tFA_61, fc_tFB_61, fn_tFB_61, sh_61, wn_61, fc_tFA_27, fn_tFA_27, fc_tFB_27, fn_tFB_27, sh_27, wn_27, fc_tFA_68, fn_tFA_68, fc_tFB_68, fn_tFB_68, sh_68, wn_68, fc_tFA_91, fn_tFA_91, fc_tFB_91, fn_tFB_91, sh_91, wn_91]
      rw [mAdd_ok (a := i) (by omega) (by omega)]
      refine ⟨by omega, by omega, ih (i + 1) _ (by omega) (by omega) (fun l l1 l2 => ?_)⟩
      rw [tb_or, hb l l1 l2]
      have hst : h (51 + i) 4 = 0 ∨ h (51 + i) 4 = 1 := by omega
      rcases hst with e | e
      · rw [e, tb_shl i0 (by omega) l1 l2, tb_zero, Bool.and_false, Bool.or_false]
        by_cases el : l = i
        · subst el; rw [e]; simp
        · by_cases e3 : l < i
          · rw [decide_eq_true e3, decide_eq_true (show l < i + 1 by omega)]
          · rw [decide_eq_false e3, decide_eq_false (show ¬ l < i + 1 by omega)]
      · rw [e, tb_shl1 i0 (by omega) l1 l2]
        by_cases el : l = i
        · subst el; rw [e, decide_eq_true (show l < l + 1 by omega)]; simp
        · by_cases e3 : l < i
          · rw [decide_eq_true e3, decide_eq_true (show l < i + 1 by omega), decide_eq_false el]; simp
          · rw [decide_eq_false e3, decide_eq_false (show ¬ l < i + 1 by omega), decide_eq_false el]; simp
  exact key (h 46 1).toNat 0 0 (by omega) (Int.le_refl _) (fun l l1 l2 => by rw [tb_zero, decide_eq_false (by omega)]; rfl)
theorem tilesOf_inB {s : Int} (n1 : 0 ≤ h 46 1 ∧ h 46 1 ≤ 10) (s0 : 0 ≤ s) (s1 : s < mShl 1 (h 46 1)) : upTo (fun l a => bif tb s l then mAdd a (h 87 l) else a) 0 10 0 = tilesIn 46 h s :=
  upTo_skip n1.1 n1.2 (fun i a i1 i2 => by rw [tb_lt n1.1 (by omega) s0 s1 i1 (by omega)]; rfl)
theorem aB_stopped {p a : Int} (hC : Cp 46 h m0) (hy : ∀ x h', Fr (Sw3 46) h h' → x = (if (0 ≤ p ∧ p < h 46 3) ∧ (a = 0 ∨ a = 1) then stopV 46 h (stopF 46 h p) a else -1) → Q x h') : qC tFB (d + 6) k_c_stopped [1, p, a] h Q := by
  have n1 := hC.T.1.2.1.2.1
  have n3 := hC.T.1.2.1.2.2.1
  refine qC_intro (TB_c_stopped_0 _ _ _ _ _ _ _ ⟨fun c => hy _ _ Fr.rf (by rw [if_neg (by omega)]), fun c => ⟨fun c2 => hy _ _ Fr.rf (by rw [if_neg (by omega)]), fun c2 => pB_isPerson (fun x hx => ⟨fun c3 => ?_, fun c3 => hy _ _ Fr.rf (by rw [if_neg (fun q => hx.neg (Decidable.of_not_not c3) q.1)])⟩)⟩⟩)
  obtain ⟨p1, p2⟩ := hx.pos c3
  obtain ⟨hs, hg, -, -, -⟩ := Nw_at hC.N p1 p2
  refine pB_look hC.T hC.N p1 p2 (fun h1 f1 hW => ?_)
  have hT1 : Tn 46 1 h1 m0 := Tn_frC (v := 5) (by decide) (f1.mono (fun _ _ q => Swk_ScC (by decide) q)) hC.T
  have f3 : Fr (Sw3 46) h h1 := f1.mono (fun k i q => by rcases q with q | q; exact Or.inl q; exact Or.inr (by omega))
  have e1 : h1 46 1 = h 46 1 := f1 46 1 (by unfold Swk Sct; omega)
  have hN := pow_1024 n1.1 n1.2
  refine pB_storks hT1 (fun st hst => ?_)
  have hK : mOr (mOr st (mShl 1 (h1 88 p))) (mShl 1 (h1 89 p)) = keptV 46 h p := by
    refine tb_ext (InI_or _ _) (setOf_InI _ _ n1.1) (fun l l1 l2 => ?_)
    unfold keptV
    rw [setOf_tb n1.1 (by omega) l1 l2, tb_or, tb_or, hst l l1 l2, e1, f1 (51 + l) 4 (by unfold Swk Sct; omega), f1 88 p (by unfold Swk Sct; omega), f1 89 p (by unfold Swk Sct; omega), tb_shl1 hs.1 (by omega) l1 l2, tb_shl1 hg.1 (by omega) l1 l2]
    simp only [Int.reduceAdd]
    rw [Bool.eq_iff_iff]
    simp only [Bool.or_eq_true, Bool.and_eq_true, decide_eq_true_eq]
    constructor
    · rintro ((⟨q1, q2⟩ | q) | q)
      · exact ⟨q1, Or.inl q2⟩
      · exact ⟨by omega, Or.inr (Or.inl q)⟩
      · exact ⟨by omega, Or.inr (Or.inr q)⟩
    · rintro ⟨q1, q2 | q2 | q2⟩
      · exact Or.inl (Or.inl ⟨q1, q2⟩)
      · exact Or.inl (Or.inr q2)
      · exact Or.inr q2
  rw [hK]
  refine mmD_of (by omega) (mmD_of (by omega) ?_)
  have g87 : ∀ l, h1 87 l = h 87 l := fun l => f1 87 l (by unfold Swk Sct; omega)
  have key : ∀ (m : Nat) (k best fw : Int) (w7 : mmV), k + m = mShl 1 (h 46 1) → 0 ≤ k → (best = -1 ∨ (0 ≤ best ∧ best < k ∧ fw = tilesIn 46 h best)) → bstF (fun s => decide (mAnd s (keptV 46 h p) = 0) && !okG 46 h p s 0 31) (tilesIn 46 h) m k best = stopF 46 h p → qB tFB (d + 5) k_c_stopped (h 0 0) (h 0 1) Q 3 [(3, 1), (1, p), (1, a), (1, keptV 46 h p), (1, best), (1, fw), (1, k), w7] [] h1 := by
    intro m
    induction m with
    | zero =>
      intro k best fw w7 hk k0 hb he
      have he2 : best = stopF 46 h p := he
      have hy2 : ∀ x, x = stopV 46 h best a → Q x h1 := fun x q => hy x h1 f3 (by rw [if_pos ⟨⟨p1, p2⟩, by omega⟩, ← he2]; exact q)
      unfold stopV at hy2
      refine TB_c_stopped_3 _ _ _ _ _ _ _ _ _ _ _ _ ⟨fun _ => ⟨fun c4 => hy2 _ (by rw [if_pos c4]; exact c4), fun c4 => ⟨fun c5 => hy2 _ (by rw [if_neg c4, if_pos (by omega)]; exact (hb.resolve_left c4).2.2), fun c5 => hy2 _ (by rw [if_neg c4, if_neg (by omega)])⟩⟩, fun c => absurd (by rw [e1]; omega) c⟩
    | succ m ih =>
      intro k best fw w7 hk k0 hb he
      rw [bstF_succ] at he
      refine TB_c_stopped_3 _ _ _ _ _ _ _ _ _ _ _ _ ⟨fun c => absurd c (by rw [e1]; omega), fun _ => ?_⟩
      rw [mAdd_ok (a := k) (by omega) (by omega)]
      refine ⟨fun c4 => ih (k + 1) best fw _ (by omega) (by omega) (by omega) (by rw [if_neg (fun q => by have := q.2; rw [decide_eq_false c4] at this; cases this)] at he; exact he), fun c4 => pB_tilesOf ?_⟩
      have c4 := Decidable.of_not_not c4
      have ht : upTo (fun l s => bif tb k l then mAdd s (h1 87 l) else s) 0 10 0 = tilesIn 46 h k := by
        rw [← tilesOf_inB n1 k0 (by omega)]
        exact upTo_congr (fun i s _ _ => by rw [g87])
      rw [ht]
      have b4 : (best = -1 ∨ tilesIn 46 h k < tilesIn 46 h best) → qB tFB (d + 5) k_c_stopped (h 0 0) (h 0 1) Q 4 [(3, 1), (1, p), (1, a), (1, keptV 46 h p), (1, best), (1, fw), (1, k), (1, tilesIn 46 h k)] [] h1 := by
        intro hs0
        refine TB_c_stopped_4 _ _ _ _ _ _ _ _ _ _ _ _ (pB_arr (g := h) (p := p) (gone := k) (op := 0) (ow := 31) n1 hs hg hW (fun b b1 b2 => ?_) (fun z hz => ?_))
        · have hob := (hC.T.2.1 b b1 b2).1
          have h31 := cnS_all (g := h) (u := 46) (p := p) (l := b) ⟨hob.2.1, by have := hC.T.1.2.1.1; omega⟩
          rw [tb_and, hW.2.2.2.1, setOf_tb n1.1 (by omega) b1 (by omega), decide_eq_true b2, tb_not b1 (by omega), ← h31]
          unfold cnS tlS
          rw [tb_zero]
          cases e : tb k b <;> simp
        · rw [mAdd_ok (a := k) (by omega) (by omega)]
          refine ⟨fun c5 => ih (k + 1) best fw _ (by omega) (by omega) (by omega) (by rw [if_neg (fun q => by have := q.2; rw [hz.pos c5] at this; simp at this)] at he; exact he), fun c5 => ih (k + 1) k _ _ (by omega) (by omega) (Or.inr ⟨k0, by omega, rfl⟩) ?_⟩
          have hno : okG 46 h p k 0 31 = false := by
            cases e : okG 46 h p k 0 31 with
            | false => rfl
            | true => exact absurd e (hz.neg (Decidable.of_not_not c5))
          rw [if_pos ⟨hs0, by rw [decide_eq_true c4, hno]; rfl⟩] at he
          exact he
      refine ⟨fun c5 => b4 (Or.inl c5), fun c5 => ?_⟩
      have hfw := (hb.resolve_left c5).2.2
      exact ⟨fun c6 => ih (k + 1) best fw _ (by omega) (by omega) (by omega) (by rw [if_neg (fun q => by omega)] at he; exact he), fun c6 => b4 (Or.inr (by omega))⟩
  exact key (mShl 1 (h 46 1)).toNat 0 (-1) 0 _ (by omega) (Int.le_refl _) (Or.inl rfl) rfl
end SOB
