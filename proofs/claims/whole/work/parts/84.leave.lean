/-! ===== mm: what if ways were otherwise ===== -/
noncomputable def eG (u : Int) (g : mmH) (p gone op ow c1 c2 a b : Int) : Bool := (!decide ((a = c1 ∧ b = c2) ∨ (a = c2 ∧ b = c1)) && cnS u g p gone op ow b) && nearS u g (g 86 1) p a b
noncomputable def wG (u : Int) (g : mmH) (p gone op b : Int) : Int := tollC u g p b (tlS g gone op b)
noncomputable def dG (u : Int) (g : mmH) (p gone op ow c1 c2 : Int) : wV := dis (g u 1) (eG u g p gone op ow c1 c2) (wG u g p gone op) (g 89 p)
theorem wOk_G (u : Int) (g : mmH) (p gone op ow c1 c2 : Int) : wOk (g u 1) (eG u g p gone op ow c1 c2) (wG u g p gone op) := by
  intro a x a1 a2 x1 x2 e
  unfold eG cnS at e
  simp only [Bool.and_eq_true, decide_eq_true_eq] at e
  have := tollC_ok u g p x (tlS g gone op x)
  unfold wG
  omega
/-- could he come to the end? -/
noncomputable def okG (u : Int) (g : mmH) (p gone op ow : Int) : Bool := decide (dG u g p gone op ow (-1) (-1) (g 88 p) ≠ wFar)
/-- the first of the cheapest -/
noncomputable def bstF (ok : Int → Bool) (cost : Int → Int) : Nat → Int → Int → Int
  | 0, _, best => best
  | n + 1, k, best => bstF ok cost n (k + 1) (if (best = -1 ∨ cost k < cost best) ∧ ok k = true then k else best)
theorem bstF_succ (ok : Int → Bool) (cost : Int → Int) (n : Nat) (k best : Int) : bstF ok cost (n + 1) k best = bstF ok cost n (k + 1) (if (best = -1 ∨ cost k < cost best) ∧ ok k = true then k else best) := rfl
theorem pow_1024 {n : Int} (h0 : 0 ≤ n) (hn : n ≤ 10) : 0 < mShl 1 n ∧ mShl 1 n ≤ 1024 := by
  rw [mShl1_eq h0 (by omega)]
  have : ∀ m : Fin 11, (0 : Int) < 2 ^ m.val ∧ (2 : Int) ^ m.val ≤ 1024 := by decide +kernel
  exact this ⟨n.toNat, by omega⟩
section CF
variable {d : Nat} {u : Int} {g h : mmH} {Q : Int → mmH → Prop}
/-- the reference's two looks, one behind the other -/
theorem q_m_cf {p gone op ow c1 c2 : Int} {k : Int → mmH → Prop} (hu : u = 5 ∨ u = 46) (hT : Tn u 1 g h) (hN : Nw 86 329 0 u g h) (p1 : 0 ≤ p) (p2 : p < g u 3)
    (hy : ∀ h' x, Fr Smw h h' → (∀ x, 0 ≤ x → x < g u 1 → h' 332 x = (dG u g p gone op ow c1 c2 x).1 ∧ h' 333 x = (dG u g p gone op ow c1 c2 x).2) → YN x (dG u g p gone op ow c1 c2 (g 88 p) ≠ wFar) → k x h') :
    qC tFM (d + 5) k_m_comes [282, p, gone, op, ow] h (fun _ h1 => qC tFM (d + 5) k_m_finds [282, p, c1, c2] h1 k) := by
  refine q_m_comes hu hT hN p1 p2 (fun h1 f1 hl => ?_)
  have hT1 : Tn u 1 g h1 := Tn_frM (fun k i q => f1 k i (by unfold TnM at q; unfold Smc Smt Spm; omega)) hT
  have hN1 : Nw 86 329 0 u g h1 := Nw_eq rfl rfl rfl (funext fun i => f1 329 i (by unfold Smc Smt Spm; omega)) (fun _ _ _ => rfl) hN
  have hE : ∀ a b, 0 ≤ a → a < g u 1 → 0 ≤ b → b < g u 1 → eG u g p gone op ow c1 c2 a b = eM u g h1 p c1 c2 a b := by
    intro a b a1 a2 b1 b2
    unfold eG eM
    rw [(hl b b1 b2).2]
    cases cnS u g p gone op ow b <;> simp
  have hw : ∀ b, 0 ≤ b → b < g u 1 → wG u g p gone op b = h1 331 b := fun b b1 b2 => ((hl b b1 b2).1).symm
  have hd : dis (g u 1) (eM u g h1 p c1 c2) (h1 331) (g 89 p) = dG u g p gone op ow c1 c2 := (dis_congr hE hw).symm
  refine q_m_finds hT1 hN1 p1 p2 (wOk_congr hE hw (wOk_G u g p gone op ow c1 c2)) (fun l l1 l2 => by rw [(hl l l1 l2).2]; split <;> omega) (fun h2 hR x hx => hy h2 x ?_ ?_ ?_)
  · exact (f1.mono (fun _ _ q => Or.inl q)).tr (hR.1.mono (fun _ _ q => Or.inr q))
  · rw [hd] at hR
    exact hR.2.1
  · rw [hd] at hx
    exact hx
theorem okG_YN {p gone op ow x : Int} (hx : YN x (dG u g p gone op ow (-1) (-1) (g 88 p) ≠ wFar)) : YN x (okG u g p gone op ow = true) := hx.congr (by unfold okG; simp)
end CF
theorem pc_nonneg (a : Int) : 0 ≤ pc a := by unfold pc; omega
noncomputable def leaveF (u : Int) (g : mmH) (p : Int) : Int := bstF (fun s => okG u g p 0 0 s) pc (mShl 1 (g u 0)).toNat 0 (-1)
def cobV (best a : Int) : Int := if best = -1 then -1 else if a = 0 then pc best else best
section LVA
variable {d : Nat} {h m0 : mmH} {Q : Int → mmH → Prop}
theorem pA_lotsOf {s : Int} (hT : Tn 5 1 h m0) (hy : Q (setOf (h 5 1) (fun l => tb s (h (10 + l) 0))) h) : qC tFA (d + 1) k_Town_lotsOf [5, s] h Q := by
  have n1 := hT.1.2.1.2.1
  have n0 := hT.1.2.1.1
  refine qC_intro (TA5_Town_lotsOf_0 _ _ _ _ _ _ ?_)
  refine upTo_go (P := fun i (b : Int) => qB tFA d k_Town_lotsOf (h 0 0) (h 0 1) Q 1 [(3, 5), (1, s), (1, b), (1, i)] [] h) (f := fun l b => bif tb s (h (10 + l) 0) then mOr b (mShl 1 l) else b) 0 (h 5 1) 0 n1.1 (fun i b i1 i2 hp => ?_) (TA5_Town_lotsOf_1 _ _ _ _ _ _ _ _ ⟨fun _ => hy, fun c => absurd (Int.le_refl _) c⟩)
  have hl := (hT.2.1 i i1 i2).1
  simp only [Int.reduceAdd] at hl
  refine TA5_Town_lotsOf_1 _ _ _ _ _ _ _ _ ⟨fun c => absurd c (by omega), fun _ => ?_⟩
  simp (disch := omega) only [mmD_iff, mmG_iff, Bool.and_eq_true, Bool.or_eq_true, Nat.beq_refl, true_and, and_true, Option.getD_none, Option.isNone_none, decide_eq_true_eq, lc_lt0, lc_gt0, lc_le0, lc_ge0, lc_eq0, lc_ne0, ite_true, ite_false, fc_tFA_9, fn_tFA_9, fc_tFB_9, fn_tFB_9, sh_9, wn_9, fc_tFA_50, fn_tFA_50, fc_tFB_50, fn_tFB_50, sh_50, wn_50, fc_tFA_20, fn_tFA_20, fc_tFB_20, fn_tFB_20, sh_20, wn_20, fc_tFA_61, fn_tFA_61, fc_tFB_61, fn_tFB_61, sh_61, wn_61, fc_tFA_27, fn_tFA_27, fc_tFB_27, fn_tFB_27, sh_27, wn_27, fc_tFA_68, fn_tFA_68, fc_tFB_68, fn_tFB_68, sh_68, wn_68, fc_tFA_91, fn_tFA_91, fc_tFB_91, fn_tFB_91, sh_91, wn_91]
  rw [mAdd_ok (a := i) (by omega) (by omega), Ne, bit_is hl.2.1 (by omega)]
  refine ⟨by omega, by omega, fun c => ?_, fun c => ?_⟩
  · rw [Bool.eq_false_iff.mpr c] at hp; exact hp
  · rw [Decidable.of_not_not c] at hp; exact hp
/-- arriving, with other lots to come to -/
theorem pA_arr {g : mmH} {p o gone op ow : Int} (hn : 0 ≤ g 5 1 ∧ g 5 1 ≤ 10) (hs : 0 ≤ g 88 p ∧ g 88 p < g 5 1) (hg : 0 ≤ g 89 p ∧ g 89 p < g 5 1) (hW : Wk 5 g p h) (ho : ∀ b, 0 ≤ b → b < g 5 1 → tb o b = cnS 5 g p gone op ow b)
    (hy : ∀ x, YN x (okG 5 g p gone op ow = true) → Q x h) : qC tFA (d + 2) k_Walk_arrives [96, o] h Q := by
  have hE : ∀ a b, 0 ≤ a → a < g 5 1 → 0 ≤ b → b < g 5 1 → eG 5 g p gone op ow (-1) (-1) a b = (tb (h 97 a) b && tb o b) := by
    intro a b a1 a2 b1 b2
    unfold eG
    rw [decide_eq_false (by omega), ho b b1 b2, (hW.2.2.2.2 a a1 a2).2, setOf_tb hn.1 (by omega) b1 (by omega), decide_eq_true b2]
    simp [Bool.and_comm]
  have hd := dis_congr (last := g 89 p) hE (fun b (_ : 0 ≤ b) (_ : b < g 5 1) => rfl (a := wG 5 g p gone op b))
  refine pA_arrives (w := wG 5 g p gone op) (by rw [hW.1]; exact hn.1) (by rw [hW.1]; exact hn.2) (fun a l a1 a2 l1 l2 e => by rw [hW.1] at a2 ⊢; exact hops_Wk hn hW a1 a2 l1 l2 e) (by rw [hW.2.1]; exact hs.1) (by rw [hW.2.1, hW.1]; exact hs.2) (by rw [hW.2.2.1]; exact hg.1) (by rw [hW.2.2.1, hW.1]; exact hg.2) (by rw [hW.1]; exact wOk_congr hE (fun _ _ _ => rfl) (wOk_G 5 g p gone op ow (-1) (-1))) (fun x hx => hy x (okG_YN ?_))
  rw [hW.1, hW.2.1, hW.2.2.1, ← hd] at hx
  exact hx
theorem pA_countOrBits {b a : Int} (hb : b = -1 ∨ (0 ≤ b ∧ b < 1024)) (ha : a = 0 ∨ a = 1) (hy : Q (cobV b a) h) : qC tFA (d + 2) k_c_countOrBits [b, a] h Q := by
  unfold cobV at hy
  refine qC_intro (TA_c_countOrBits_0 _ _ _ _ _ _ _ ⟨fun c => ?_, fun c => ⟨fun c2 => pA_bitCount (by omega) (by omega) ?_, fun c2 => ?_⟩⟩)
  · rw [if_pos c] at hy; rw [c]; exact hy
  · rw [if_neg c, if_pos (by omega)] at hy; exact hy
  · rw [if_neg c, if_neg (by omega)] at hy; exact hy
theorem aA_leave {p a : Int} (hC : Cp 5 h m0) (hy : ∀ x h', Fr (Sw3 5) h h' → x = (if (0 ≤ p ∧ p < h 5 3) ∧ (a = 0 ∨ a = 1) then cobV (leaveF 5 h p) a else -1) → Q x h') : qC tFA (d + 6) k_c_leave [1, p, a] h Q := by
  have n1 := hC.T.1.2.1.2.1
  have n0 := hC.T.1.2.1.1
  refine qC_intro (TA_c_leave_0 _ _ _ _ _ _ _ ⟨fun c => hy _ _ Fr.rf (by rw [if_neg (by omega)]), fun c => ⟨fun c2 => hy _ _ Fr.rf (by rw [if_neg (by omega)]), fun c2 => pA_isPerson (fun x hx => ⟨fun c3 => ?_, fun c3 => hy _ _ Fr.rf (by rw [if_neg (fun q => hx.neg (Decidable.of_not_not c3) q.1)])⟩)⟩⟩)
  obtain ⟨p1, p2⟩ := hx.pos c3
  obtain ⟨hs, hg, -, -, -⟩ := Nw_at hC.N p1 p2
  refine pA_look hC.T hC.N p1 p2 (fun h1 f1 hW => ?_)
  have hT1 : Tn 5 1 h1 m0 := Tn_frC (v := 46) (by decide) (f1.mono (fun _ _ q => Swk_ScC (by decide) q)) hC.T
  have f3 : Fr (Sw3 5) h h1 := f1.mono (fun k i q => by rcases q with q | q; exact Or.inl q; exact Or.inr (by omega))
  have e0 : h1 5 0 = h 5 0 := f1 5 0 (by unfold Swk Sct; omega)
  have e1 : h1 5 1 = h 5 1 := f1 5 1 (by unfold Swk Sct; omega)
  have hN := pow_1024 n0.1 (by omega)
  have key : ∀ (m : Nat) (k best : Int) (w5 : mmV), k + m = mShl 1 (h 5 0) → 0 ≤ k → (best = -1 ∨ (0 ≤ best ∧ best < k)) → bstF (fun s => okG 5 h p 0 0 s) pc m k best = leaveF 5 h p → qB tFA (d + 5) k_c_leave (h 0 0) (h 0 1) Q 3 [(3, 1), (1, p), (1, a), (1, best), (1, k), w5] [] h1 := by
    intro m
    induction m with
    | zero =>
      intro k best w5 hk k0 hb he
      refine TA_c_leave_3 _ _ _ _ _ _ _ _ _ _ ⟨fun _ => pA_countOrBits (by omega) (by omega) (hy _ h1 f3 ?_), fun c => absurd (by rw [e0]; omega) c⟩
      rw [if_pos ⟨⟨p1, p2⟩, by omega⟩, ← he]
      rfl
    | succ m ih =>
      intro k best w5 hk k0 hb he
      rw [bstF_succ] at he
      have b6 : ∀ (s0 : Int) (w : mmV), YN s0 (best = -1 ∨ pc k < pc best) → qB tFA (d + 5) k_c_leave (h 0 0) (h 0 1) Q 6 [(3, 1), (1, p), (1, a), (1, best), (1, k), w] [(1, s0)] h1 := by
        intro s0 w hs0
        refine TA_c_leave_6 _ _ _ _ _ _ _ _ _ _ _ ?_
        rw [mAdd_ok (a := k) (by omega) (by omega)]
        refine ⟨fun c => ih (k + 1) best _ (by omega) (by omega) (by omega) (by rw [if_neg (fun q => hs0.neg c q.1)] at he; exact he), fun c => pA_lotsOf hT1 (pA_arr (g := h) (p := p) (gone := 0) (op := 0) (ow := k) n1 hs hg hW (fun b b1 b2 => ?_) (fun z hz => ⟨fun c4 => ih (k + 1) best _ (by omega) (by omega) (by omega) (by rw [if_neg (fun q => hz.neg c4 q.2)] at he; exact he), fun c4 => ih (k + 1) k _ (by omega) (by omega) (Or.inr ⟨k0, by omega⟩) (by rw [if_pos ⟨hs0.pos c, hz.pos c4⟩] at he; exact he)⟩))⟩
        rw [tb_and, hW.2.2.2.1, e1, setOf_tb n1.1 (by omega) b1 (by omega), setOf_tb n1.1 (by omega) b1 (by omega), decide_eq_true b2, f1 (10 + b) 0 (by unfold Swk Sct; omega)]
        unfold cnS opS tlS
        rw [tb_zero, if_neg (by decide), if_neg (by simp)]
        simp
      refine TA_c_leave_3 _ _ _ _ _ _ _ _ _ _ ⟨fun c => absurd c (by rw [e0]; omega), fun _ => ⟨fun c => b6 1 _ (YN.yes (Or.inl c)), fun c => pA_bitCount k0 (by omega) (pA_bitCount (by omega) (by omega) ⟨fun c4 => b6 0 _ (YN.no (by omega)), fun c4 => b6 1 _ (YN.yes (Or.inr (by omega)))⟩)⟩⟩
  exact key (mShl 1 (h 5 0)).toNat 0 (-1) _ (by omega) (Int.le_refl _) (Or.inl rfl) rfl
end LVA
section LVB
variable {d : Nat} {h m0 : mmH} {Q : Int → mmH → Prop}
theorem pB_lotsOf {s : Int} (hT : Tn 46 1 h m0) (hy : Q (setOf (h 46 1) (fun l => tb s (h (51 + l) 0))) h) : qC tFB (d + 1) k_Town_lotsOf [46, s] h Q := by
  have n1 := hT.1.2.1.2.1
  have n0 := hT.1.2.1.1
  refine qC_intro (TB46_Town_lotsOf_0 _ _ _ _ _ _ ?_)
  refine upTo_go (P := fun i (b : Int) => qB tFB d k_Town_lotsOf (h 0 0) (h 0 1) Q 1 [(3, 46), (1, s), (1, b), (1, i)] [] h) (f := fun l b => bif tb s (h (51 + l) 0) then mOr b (mShl 1 l) else b) 0 (h 46 1) 0 n1.1 (fun i b i1 i2 hp => ?_) (TB46_Town_lotsOf_1 _ _ _ _ _ _ _ _ ⟨fun _ => hy, fun c => absurd (Int.le_refl _) c⟩)
  have hl := (hT.2.1 i i1 i2).1
  simp only [Int.reduceAdd] at hl
  refine TB46_Town_lotsOf_1 _ _ _ _ _ _ _ _ ⟨fun c => absurd c (by omega), fun _ => ?_⟩
  simp (disch := omega) only [mmD_iff, mmG_iff, Bool.and_eq_true, Bool.or_eq_true, Nat.beq_refl, true_and, and_true, Option.getD_none, Option.isNone_none, decide_eq_true_eq, lc_lt0, lc_gt0, lc_le0, lc_ge0, lc_eq0, lc_ne0, ite_true, ite_false, fc_tFA_9, fn_tFA_9, fc_tFB_9, fn_tFB_9, sh_9, wn_9, fc_tFA_50, fn_tFA_50, fc_tFB_50, fn_tFB_50, sh_50, wn_50, fc_tFA_20, fn_tFA_20, fc_tFB_20, fn_tFB_20, sh_20, wn_20, fc_tFA_61, fn_tFA_61, fc_tFB_61, fn_tFB_61, sh_61, wn_61, fc_tFA_27, fn_tFA_27, fc_tFB_27, fn_tFB_27, sh_27, wn_27, fc_tFA_68, fn_tFA_68, fc_tFB_68, fn_tFB_68, sh_68, wn_68, fc_tFA_91, fn_tFA_91, fc_tFB_91, fn_tFB_91, sh_91, wn_91]
  rw [mAdd_ok (a := i) (by omega) (by omega), Ne, bit_is hl.2.1 (by omega)]
  refine ⟨by omega, by omega, fun c => ?_, fun c => ?_⟩
  · rw [Bool.eq_false_iff.mpr c] at hp; exact hp
  · rw [Decidable.of_not_not c] at hp; exact hp
/-- arriving, with other lots to come to -/
theorem pB_arr {g : mmH} {p o gone op ow : Int} (hn : 0 ≤ g 46 1 ∧ g 46 1 ≤ 10) (hs : 0 ≤ g 88 p ∧ g 88 p < g 46 1) (hg : 0 ≤ g 89 p ∧ g 89 p < g 46 1) (hW : Wk 46 g p h) (ho : ∀ b, 0 ≤ b → b < g 46 1 → tb o b = cnS 46 g p gone op ow b)
    (hy : ∀ x, YN x (okG 46 g p gone op ow = true) → Q x h) : qC tFB (d + 2) k_Walk_arrives [96, o] h Q := by
  have hE : ∀ a b, 0 ≤ a → a < g 46 1 → 0 ≤ b → b < g 46 1 → eG 46 g p gone op ow (-1) (-1) a b = (tb (h 97 a) b && tb o b) := by
    intro a b a1 a2 b1 b2
    unfold eG
    rw [decide_eq_false (by omega), ho b b1 b2, (hW.2.2.2.2 a a1 a2).2, setOf_tb hn.1 (by omega) b1 (by omega), decide_eq_true b2]
    simp [Bool.and_comm]
  have hd := dis_congr (last := g 89 p) hE (fun b (_ : 0 ≤ b) (_ : b < g 46 1) => rfl (a := wG 46 g p gone op b))
  refine pB_arrives (w := wG 46 g p gone op) (by rw [hW.1]; exact hn.1) (by rw [hW.1]; exact hn.2) (fun a l a1 a2 l1 l2 e => by rw [hW.1] at a2 ⊢; exact hops_Wk hn hW a1 a2 l1 l2 e) (by rw [hW.2.1]; exact hs.1) (by rw [hW.2.1, hW.1]; exact hs.2) (by rw [hW.2.2.1]; exact hg.1) (by rw [hW.2.2.1, hW.1]; exact hg.2) (by rw [hW.1]; exact wOk_congr hE (fun _ _ _ => rfl) (wOk_G 46 g p gone op ow (-1) (-1))) (fun x hx => hy x (okG_YN ?_))
  rw [hW.1, hW.2.1, hW.2.2.1, ← hd] at hx
  exact hx
theorem pB_countOrBits {b a : Int} (hb : b = -1 ∨ (0 ≤ b ∧ b < 1024)) (ha : a = 0 ∨ a = 1) (hy : Q (cobV b a) h) : qC tFB (d + 2) k_c_countOrBits [b, a] h Q := by
  unfold cobV at hy
  refine qC_intro (TB_c_countOrBits_0 _ _ _ _ _ _ _ ⟨fun c => ?_, fun c => ⟨fun c2 => pB_bitCount (by omega) (by omega) ?_, fun c2 => ?_⟩⟩)
  · rw [if_pos c] at hy; rw [c]; exact hy
  · rw [if_neg c, if_pos (by omega)] at hy; exact hy
  · rw [if_neg c, if_neg (by omega)] at hy; exact hy
theorem aB_leave {p a : Int} (hC : Cp 46 h m0) (hy : ∀ x h', Fr (Sw3 46) h h' → x = (if (0 ≤ p ∧ p < h 46 3) ∧ (a = 0 ∨ a = 1) then cobV (leaveF 46 h p) a else -1) → Q x h') : qC tFB (d + 6) k_c_leave [1, p, a] h Q := by
  have n1 := hC.T.1.2.1.2.1
  have n0 := hC.T.1.2.1.1
  refine qC_intro (TB_c_leave_0 _ _ _ _ _ _ _ ⟨fun c => hy _ _ Fr.rf (by rw [if_neg (by omega)]), fun c => ⟨fun c2 => hy _ _ Fr.rf (by rw [if_neg (by omega)]), fun c2 => pB_isPerson (fun x hx => ⟨fun c3 => ?_, fun c3 => hy _ _ Fr.rf (by rw [if_neg (fun q => hx.neg (Decidable.of_not_not c3) q.1)])⟩)⟩⟩)
  obtain ⟨p1, p2⟩ := hx.pos c3
  obtain ⟨hs, hg, -, -, -⟩ := Nw_at hC.N p1 p2
  refine pB_look hC.T hC.N p1 p2 (fun h1 f1 hW => ?_)
  have hT1 : Tn 46 1 h1 m0 := Tn_frC (v := 5) (by decide) (f1.mono (fun _ _ q => Swk_ScC (by decide) q)) hC.T
  have f3 : Fr (Sw3 46) h h1 := f1.mono (fun k i q => by rcases q with q | q; exact Or.inl q; exact Or.inr (by omega))
  have e0 : h1 46 0 = h 46 0 := f1 46 0 (by unfold Swk Sct; omega)
  have e1 : h1 46 1 = h 46 1 := f1 46 1 (by unfold Swk Sct; omega)
  have hN := pow_1024 n0.1 (by omega)
  have key : ∀ (m : Nat) (k best : Int) (w5 : mmV), k + m = mShl 1 (h 46 0) → 0 ≤ k → (best = -1 ∨ (0 ≤ best ∧ best < k)) → bstF (fun s => okG 46 h p 0 0 s) pc m k best = leaveF 46 h p → qB tFB (d + 5) k_c_leave (h 0 0) (h 0 1) Q 3 [(3, 1), (1, p), (1, a), (1, best), (1, k), w5] [] h1 := by
    intro m
    induction m with
    | zero =>
      intro k best w5 hk k0 hb he
      refine TB_c_leave_3 _ _ _ _ _ _ _ _ _ _ ⟨fun _ => pB_countOrBits (by omega) (by omega) (hy _ h1 f3 ?_), fun c => absurd (by rw [e0]; omega) c⟩
      rw [if_pos ⟨⟨p1, p2⟩, by omega⟩, ← he]
      rfl
    | succ m ih =>
      intro k best w5 hk k0 hb he
      rw [bstF_succ] at he
      have b6 : ∀ (s0 : Int) (w : mmV), YN s0 (best = -1 ∨ pc k < pc best) → qB tFB (d + 5) k_c_leave (h 0 0) (h 0 1) Q 6 [(3, 1), (1, p), (1, a), (1, best), (1, k), w] [(1, s0)] h1 := by
        intro s0 w hs0
        refine TB_c_leave_6 _ _ _ _ _ _ _ _ _ _ _ ?_
        rw [mAdd_ok (a := k) (by omega) (by omega)]
        refine ⟨fun c => ih (k + 1) best _ (by omega) (by omega) (by omega) (by rw [if_neg (fun q => hs0.neg c q.1)] at he; exact he), fun c => pB_lotsOf hT1 (pB_arr (g := h) (p := p) (gone := 0) (op := 0) (ow := k) n1 hs hg hW (fun b b1 b2 => ?_) (fun z hz => ⟨fun c4 => ih (k + 1) best _ (by omega) (by omega) (by omega) (by rw [if_neg (fun q => hz.neg c4 q.2)] at he; exact he), fun c4 => ih (k + 1) k _ (by omega) (by omega) (Or.inr ⟨k0, by omega⟩) (by rw [if_pos ⟨hs0.pos c, hz.pos c4⟩] at he; exact he)⟩))⟩
        rw [tb_and, hW.2.2.2.1, e1, setOf_tb n1.1 (by omega) b1 (by omega), setOf_tb n1.1 (by omega) b1 (by omega), decide_eq_true b2, f1 (51 + b) 0 (by unfold Swk Sct; omega)]
        unfold cnS opS tlS
        rw [tb_zero, if_neg (by decide), if_neg (by simp)]
        simp
      refine TB_c_leave_3 _ _ _ _ _ _ _ _ _ _ ⟨fun c => absurd c (by rw [e0]; omega), fun _ => ⟨fun c => b6 1 _ (YN.yes (Or.inl c)), fun c => pB_bitCount k0 (by omega) (pB_bitCount (by omega) (by omega) ⟨fun c4 => b6 0 _ (YN.no (by omega)), fun c4 => b6 1 _ (YN.yes (Or.inr (by omega)))⟩)⟩⟩
  exact key (mShl 1 (h 46 0)).toNat 0 (-1) _ (by omega) (Int.le_refl _) (Or.inl rfl) rfl
end LVB
section LM
variable {d : Nat} {u : Int} {g h : mmH} {Q : Int → mmH → Prop}
theorem Cp_Smw (hC : Cp u g h) {h' : mmH} (hF : Fr Smw h h') : Tn u 1 g h' ∧ Nw 86 329 0 u g h' :=
  ⟨Tn_Smw hF hC.T, Nw_eq rfl rfl rfl (funext fun i => hF 329 i (by unfold Smw Smc Smt Spm; omega)) (fun _ _ _ => rfl) hC.N⟩
theorem b_leave {p a : Int} (hC : Cp u g h) (hy : ∀ x h', Fr Smw h h' → x = (if (0 ≤ p ∧ p < g u 3) ∧ (a = 0 ∨ a = 1) then cobV (leaveF u g p) a else -1) → Q x h') : qC tFM (d + 6) k_m_leave [282, p, a] h Q := by
  obtain ⟨m0, m1, m2, m3, m4⟩ := hC.many
  have n0 := hC.T.1.2.1.1
  have n3 := hC.T.1.2.1.2.2.1
  refine qC_intro (T_m_leave_0 _ _ _ _ _ _ _ (q_m_isPerson (by omega) (by omega) (fun x hx => ⟨fun c => hy _ _ Fr.rf (by rw [if_neg (fun q => hx.neg c (by omega))]), fun c => q_m_isIn (fun z hz => ⟨fun c2 => ?_, fun c2 => hy _ _ Fr.rf (by rw [if_neg (fun q => hz.neg (Decidable.of_not_not c2) (by omega))])⟩)⟩)))
  have hp := hx.pos c
  rw [m2] at hp
  have ha := hz.pos c2
  have hN := pow_1024 n0.1 (by omega)
  have key : ∀ (m : Nat) (k best : Int) (h1 : mmH), Fr Smw h h1 → k + m = mShl 1 (g u 0) → 0 ≤ k → (best = -1 ∨ (0 ≤ best ∧ best < k)) → bstF (fun s => okG u g p 0 0 s) pc m k best = leaveF u g p → qB tFM (d + 5) k_m_leave (h 0 0) (h 0 1) Q 3 [(3, 282), (1, p), (1, a), (1, best), (1, k)] [] h1 := by
    intro m
    induction m with
    | zero =>
      intro k best h1 f1 hk k0 hb he
      refine T_m_leave_3 _ _ _ _ _ _ _ _ _ (q_m_ownerMany ⟨fun _ => ⟨fun c3 => ⟨fun c4 => hy _ h1 f1 ?_, fun c4 => q_m_bits (by omega) (by omega) (hy _ h1 f1 ?_)⟩, fun c3 => hy _ h1 f1 ?_⟩, fun c => absurd (by rw [f1 313 5 (by unfold Smw Smc Smt Spm; omega), m0]; omega) c⟩)
      · rw [if_pos ⟨hp, by omega⟩, ← he]; unfold cobV; show best = _; rw [show bstF (fun s => okG u g p 0 0 s) pc 0 k best = best from rfl, if_neg c3, if_neg c4]
      · rw [if_pos ⟨hp, by omega⟩, ← he]; unfold cobV; rw [show bstF (fun s => okG u g p 0 0 s) pc 0 k best = best from rfl, if_neg c3, if_pos (Decidable.of_not_not c4)]
      · rw [if_pos ⟨hp, by omega⟩, ← he]; unfold cobV; rw [show bstF (fun s => okG u g p 0 0 s) pc 0 k best = best from rfl, if_pos (Decidable.of_not_not c3)]
    | succ m ih =>
      intro k best h1 f1 hk k0 hb he
      rw [bstF_succ] at he
      obtain ⟨hT1, hN1⟩ := Cp_Smw hC f1
      have b4 : (best = -1 ∨ pc k < pc best) → qB tFM (d + 5) k_m_leave (h 0 0) (h 0 1) Q 4 [(3, 282), (1, p), (1, a), (1, best), (1, k)] [] h1 := by
        intro hs
        refine T_m_leave_4 _ _ _ _ _ _ _ _ _ (q_m_cf hC.uu hT1 hN1 hp.1 hp.2 (fun h2 x f2 _ hx2 => ?_))
        have hx3 := okG_YN hx2
        rw [mAdd_ok (a := k) (by omega) (by omega)]
        exact ⟨fun c4 => ih (k + 1) best h2 (f1.tr f2) (by omega) (by omega) (by omega) (by rw [if_neg (fun q => hx3.neg c4 q.2)] at he; exact he), fun c4 => ih (k + 1) k h2 (f1.tr f2) (by omega) (by omega) (Or.inr ⟨k0, by omega⟩) (by rw [if_pos ⟨hs, hx3.pos c4⟩] at he; exact he)⟩
      refine T_m_leave_3 _ _ _ _ _ _ _ _ _ (q_m_ownerMany ⟨fun c => absurd c (by rw [f1 313 5 (by unfold Smw Smc Smt Spm; omega), m0]; omega), fun _ => ⟨fun c3 => b4 (Or.inl c3), fun c3 => q_m_bits k0 (by omega) (q_m_bits (by omega) (by omega) ⟨fun c4 => b4 (Or.inr c4), fun c4 => ?_⟩)⟩⟩)
      rw [mAdd_ok (a := k) (by omega) (by omega)]
      exact ih (k + 1) best h1 f1 (by omega) (by omega) (by omega) (by rw [if_neg (fun q => by omega)] at he; exact he)
  exact key (mShl 1 (g u 0)).toNat 0 (-1) h Fr.rf (by omega) (Int.le_refl _) (Or.inl rfl) rfl
end LM
