/-! ===== mm: bytes onto the tape ===== -/
theorem and8 (x : Int) : (Int32.ofInt x &&& Int32.ofInt 255).toInt = x % 256 := by
  have e1 : (Int32.ofInt x &&& Int32.ofInt 255).toBitVec = BitVec.ofInt 32 x &&& 255#32 := by
    rw [Int32.toBitVec_and, Int32.toBitVec_ofInt]; rfl
  have e2 : (BitVec.ofInt 32 x &&& 255#32).toNat = (x % 256).toNat := by
    rw [BitVec.toNat_and, BitVec.toNat_ofInt, show (255#32).toNat = 2 ^ 8 - 1 from rfl, Nat.and_two_pow_sub_one_eq_mod]
    show (x % 4294967296).toNat % 256 = (x % 256).toNat
    omega
  show (Int32.ofInt x &&& Int32.ofInt 255).toBitVec.toInt = _
  rw [e1, BitVec.toInt_eq_toNat_of_lt (by rw [e2]; show 2 * (x % 256).toNat < 4294967296; omega), e2]
  omega
theorem mAnd255 (a : Int) : mAnd a 255 = a % 256 := by rw [mAnd_def]; exact and8 a
theorem tb255 {l : Int} (h1 : 0 ≤ l) (h2 : l < 32) : tb 255 l = decide (l < 8) := by
  have key : ∀ j : Fin 32, tb 255 (j.val : Int) = decide ((j.val : Int) < 8) := by decide +kernel
  have := key ⟨l.toNat, by omega⟩
  rw [show ((l.toNat : Nat) : Int) = l by omega] at this
  exact this
/-- a byte of a number -/
noncomputable def fbv (s k : Int) : Int := mAnd (mUshr s k) 255
theorem fbv_shr {s k : Int} (h1 : 0 ≤ k) (h2 : k ≤ 24) : mAnd (mShr s k) 255 = fbv s k := by
  unfold fbv
  refine tb_ext (InI_and _ _) (InI_and _ _) (fun l l1 l2 => ?_)
  rw [tb_and, tb_and, tb255 l1 l2]
  by_cases q : l < 8
  · rw [tb_shr h1 (by omega) l1 (by omega), tb_ushr h1 (by omega) l1 (by omega)]
  · rw [decide_eq_false q, Bool.and_false, Bool.and_false]
theorem fbv_ok (s k : Int) : 0 ≤ fbv s k ∧ fbv s k ≤ 255 := by unfold fbv; rw [mAnd255]; omega
def putB (b : Int) (g : mmH) : mmH := mmS (mmS g 2 (g 1 1) b) 1 1 (g 1 1 + 1)
noncomputable def fedH (A : Int → Int) (g : mmH) : Nat → mmH
  | 0 => g
  | n + 1 => putB (fbv (A n) (24 - 8 * ((n : Int) % 4))) (fedH A g n)
def pick5 (a b c e f i : Int) : Int := if i < 4 then a else if i < 8 then b else if i < 12 then c else if i < 16 then e else f
def feedP (g : mmH) (a b c e f x : Int) (g' : mmH) : Prop := (g 1 1 + 20 ≤ 1600 ∧ x = g 1 1 + 20 ∧ g' = fedH (pick5 a b c e f) g 20) ∨ (¬ g 1 1 + 20 ≤ 1600 ∧ x = -1 ∧ g' = g)
theorem putB_len (b : Int) (g : mmH) : putB b g 1 1 = g 1 1 + 1 := by unfold putB; rw [mmS_slot, if_pos rfl]
theorem fedH_len (A : Int → Int) (g : mmH) : ∀ n : Nat, fedH A g n 1 1 = g 1 1 + n
  | 0 => by show g 1 1 = g 1 1 + ((0 : Nat) : Int); omega
  | n + 1 => by
    show putB _ (fedH A g n) 1 1 = _
    rw [putB_len, fedH_len A g n]
    omega
theorem fedH4 {A : Int → Int} {g : mmH} {q : Nat} {s : Int} (hA : ∀ i, 4 * (q : Int) ≤ i → i < 4 * q + 4 → A i = s) : fedH A g (4 * q + 4) = putB (fbv s 0) (putB (fbv s 8) (putB (fbv s 16) (putB (fbv s 24) (fedH A g (4 * q))))) := by
  show putB (fbv (A ((4 * q + 3 : Nat) : Int)) (24 - 8 * (((4 * q + 3 : Nat) : Int) % 4))) (putB (fbv (A ((4 * q + 2 : Nat) : Int)) (24 - 8 * (((4 * q + 2 : Nat) : Int) % 4))) (putB (fbv (A ((4 * q + 1 : Nat) : Int)) (24 - 8 * (((4 * q + 1 : Nat) : Int) % 4))) (putB (fbv (A ((4 * q : Nat) : Int)) (24 - 8 * (((4 * q : Nat) : Int) % 4))) (fedH A g (4 * q))))) = _
  rw [hA ((4 * q + 3 : Nat) : Int) (by omega) (by omega), hA ((4 * q + 2 : Nat) : Int) (by omega) (by omega), hA ((4 * q + 1 : Nat) : Int) (by omega) (by omega), hA ((4 * q : Nat) : Int) (by omega) (by omega),
    show 24 - 8 * (((4 * q + 3 : Nat) : Int) % 4) = 0 by omega, show 24 - 8 * (((4 * q + 2 : Nat) : Int) % 4) = 8 by omega, show 24 - 8 * (((4 * q + 1 : Nat) : Int) % 4) = 16 by omega, show 24 - 8 * (((4 * q : Nat) : Int) % 4) = 24 by omega]
section TP
variable {u : Int} {g g' h h' : mmH}
theorem Cy_tape (hu : u = 5 ∨ u = 46) (hF : Fr (fun k i => (k = 1 ∧ i = 1) ∨ k = 2) g g') (hG : Fr (fun k i => (k = 282 ∧ i = 1) ∨ k = 283) h h') (tp : cTape g' h') (hC : Cy u g h) : Cy u g' h' := by
  have f : ∀ k i, ¬ ((k = 1 ∧ i = 1) ∨ k = 2) → g' k i = g k i := hF
  have m : ∀ k i, ¬ ((k = 282 ∧ i = 1) ∨ k = 283) → h' k i = h k i := hG
  refine Cy_io hu (hF.mono (fun k i q => by omega)) (hG.mono (fun k i q => by omega)) tp ?_ ?_ ?_ hC
  · have := hC.1.2.2.2.1
    unfold cSeed at this ⊢
    rw [f 1 8 (by omega), m 282 69 (by omega)]
    exact this
  · have := hC.1.2.2.2.2.1
    unfold cShot at this ⊢
    rw [f 1 11 (by omega), m 282 71 (by omega)]
    refine ⟨this.1, fun k k1 k2 => ?_⟩
    rw [f 101 k (by omega), m 335 k (by omega)]
    exact this.2 k k1 k2
  · have := hC.1.2.2.2.2.2.1
    unfold cFault at this ⊢
    rw [f 3 0 (by omega), f 3 1 (by omega), m 282 7 (by omega), m 282 8 (by omega)]
    exact this
theorem Cy_putB {b : Int} (hu : u = 5 ∨ u = 46) (hC : Cy u g h) (hl : g 1 1 < 1600) (b1 : 0 ≤ b) (b2 : b ≤ 255) : Cy u (putB b g) (mmS (mmS h 283 (h 282 1) b) 282 1 (h 282 1 + 1)) := by
  have t := hC.1.2.2.1
  unfold putB
  refine Cy_tape hu ((Fr.rf.put (Or.inr rfl)).put (Or.inl ⟨rfl, rfl⟩)) ((Fr.rf.put (Or.inr rfl)).put (Or.inl ⟨rfl, rfl⟩)) ⟨⟨?_, ?_⟩, fun i i1 i2 => ?_⟩ hC
  · rw [mmS_slot, if_pos rfl, mmS_slot, if_pos rfl, t.1.1]
  · rw [mmS_slot, if_pos rfl]; have := t.1; omega
  · rw [mmS_cell (by omega), mmS_slot, mmS_cell (by omega), mmS_slot, t.1.1]
    by_cases q : i = g 1 1
    · rw [if_pos q, if_pos q]; exact ⟨rfl, b1, b2⟩
    · rw [if_neg q, if_neg q]; exact t.2 i i1 i2
end TP
section FEA
variable {d : Nat} {h m0 : mmH} {Q : Int → mmH → Prop}
theorem pA_feedNumber {a : Int} (n1 : 0 ≤ h 1 1) (n2 : h 1 1 + 4 ≤ 1600) (hy : Q 0 (putB (fbv a 0) (putB (fbv a 8) (putB (fbv a 16) (putB (fbv a 24) h))))) : qC tFA (d + 1) k_c_feedNumber [1, a] h Q := by
  have stp : ∀ (g : mmH) (k k' : Int), k' = k - 8 → 0 ≤ k → k ≤ 24 → 0 ≤ g 1 1 → g 1 1 < 1600 → qB tFA d k_c_feedNumber (h 0 0) (h 0 1) Q 1 [(3, 1), (1, a), (1, k')] [] (putB (fbv a k) g) → qB tFA d k_c_feedNumber (h 0 0) (h 0 1) Q 1 [(3, 1), (1, a), (1, k)] [] g := by
    intro g k k' hk k1 k2 g1 g2 q
    refine TA_c_feedNumber_1 _ _ _ _ _ _ _ ⟨fun c => absurd c (by omega), fun _ => ⟨fun c => absurd c (by omega), fun _ => mmD_of (by omega) ?_⟩⟩
    rw [mAdd_ok (a := k) (by omega) (by omega), mAdd_ok (a := g 1 1) (by omega) (by omega), show k + -8 = k' by omega]
    exact q
  refine qC_intro (TA_c_feedNumber_0 _ _ _ _ _ _ (stp h 24 16 (by omega) (by omega) (by omega) (by omega) (by omega) (stp _ 16 8 (by omega) (by omega) (by omega) ?_ ?_ (stp _ 8 0 (by omega) (by omega) (by omega) ?_ ?_ (stp _ 0 (-8) (by omega) (by omega) (by omega) ?_ ?_ (TA_c_feedNumber_1 _ _ _ _ _ _ _ ⟨fun _ => hy, fun c => absurd (by omega) c⟩)))))) <;> (simp only [putB_len]; omega)
theorem aA_feed {a b c e f : Int} (t1 : 0 ≤ h 1 1) (t2 : h 1 1 ≤ 1600) (hy : ∀ x h', feedP h a b c e f x h' → Q x h') : qC tFA (d + 2) k_c_feed [1, a, b, c, e, f] h Q := by
  refine qC_intro (TA_c_feed_0 _ _ _ _ _ _ _ _ _ _ ?_)
  rw [mAdd_ok (by omega) (by omega)]
  refine ⟨fun c1 => ?_, fun c1 => hy _ _ (Or.inr ⟨c1, rfl, rfl⟩)⟩
  have L := fedH_len (pick5 a b c e f) h
  have E1 : fedH (pick5 a b c e f) h 4 = putB (fbv a 0) (putB (fbv a 8) (putB (fbv a 16) (putB (fbv a 24) h))) := fedH4 (q := 0) (fun i i1 i2 => by unfold pick5; rw [if_pos (by omega)])
  have E2 : fedH (pick5 a b c e f) h 8 = putB (fbv b 0) (putB (fbv b 8) (putB (fbv b 16) (putB (fbv b 24) (fedH (pick5 a b c e f) h 4)))) := fedH4 (q := 1) (fun i i1 i2 => by unfold pick5; rw [if_neg (by omega), if_pos (by omega)])
  have E3 : fedH (pick5 a b c e f) h 12 = putB (fbv c 0) (putB (fbv c 8) (putB (fbv c 16) (putB (fbv c 24) (fedH (pick5 a b c e f) h 8)))) := fedH4 (q := 2) (fun i i1 i2 => by unfold pick5; rw [if_neg (by omega), if_neg (by omega), if_pos (by omega)])
  have E4 : fedH (pick5 a b c e f) h 16 = putB (fbv e 0) (putB (fbv e 8) (putB (fbv e 16) (putB (fbv e 24) (fedH (pick5 a b c e f) h 12)))) := fedH4 (q := 3) (fun i i1 i2 => by unfold pick5; rw [if_neg (by omega), if_neg (by omega), if_neg (by omega), if_pos (by omega)])
  have E5 : fedH (pick5 a b c e f) h 20 = putB (fbv f 0) (putB (fbv f 8) (putB (fbv f 16) (putB (fbv f 24) (fedH (pick5 a b c e f) h 16)))) := fedH4 (q := 4) (fun i i1 i2 => by unfold pick5; rw [if_neg (by omega), if_neg (by omega), if_neg (by omega), if_neg (by omega)])
  have L4 := L 4
  have L8 := L 8
  have L12 := L 12
  have L16 := L 16
  have L20 := L 20
  refine pA_feedNumber t1 (by omega) ?_
  rw [← E1]
  refine pA_feedNumber (by omega) (by omega) ?_
  rw [← E2]
  refine pA_feedNumber (by omega) (by omega) ?_
  rw [← E3]
  refine pA_feedNumber (by omega) (by omega) ?_
  rw [← E4]
  refine pA_feedNumber (by omega) (by omega) ?_
  rw [← E5]
  exact hy _ _ (Or.inl ⟨c1, by omega, rfl⟩)
end FEA
section FEB
variable {d : Nat} {h m0 : mmH} {Q : Int → mmH → Prop}
theorem pB_feedNumber {a : Int} (n1 : 0 ≤ h 1 1) (n2 : h 1 1 + 4 ≤ 1600) (hy : Q 0 (putB (fbv a 0) (putB (fbv a 8) (putB (fbv a 16) (putB (fbv a 24) h))))) : qC tFB (d + 1) k_c_feedNumber [1, a] h Q := by
  have stp : ∀ (g : mmH) (k k' : Int), k' = k - 8 → 0 ≤ k → k ≤ 24 → 0 ≤ g 1 1 → g 1 1 < 1600 → qB tFB d k_c_feedNumber (h 0 0) (h 0 1) Q 1 [(3, 1), (1, a), (1, k')] [] (putB (fbv a k) g) → qB tFB d k_c_feedNumber (h 0 0) (h 0 1) Q 1 [(3, 1), (1, a), (1, k)] [] g := by
    intro g k k' hk k1 k2 g1 g2 q
    refine TB_c_feedNumber_1 _ _ _ _ _ _ _ ⟨fun c => absurd c (by omega), fun _ => ⟨fun c => absurd c (by omega), fun _ => mmD_of (by omega) ?_⟩⟩
    rw [mAdd_ok (a := k) (by omega) (by omega), mAdd_ok (a := g 1 1) (by omega) (by omega), show k + -8 = k' by omega]
    exact q
  refine qC_intro (TB_c_feedNumber_0 _ _ _ _ _ _ (stp h 24 16 (by omega) (by omega) (by omega) (by omega) (by omega) (stp _ 16 8 (by omega) (by omega) (by omega) ?_ ?_ (stp _ 8 0 (by omega) (by omega) (by omega) ?_ ?_ (stp _ 0 (-8) (by omega) (by omega) (by omega) ?_ ?_ (TB_c_feedNumber_1 _ _ _ _ _ _ _ ⟨fun _ => hy, fun c => absurd (by omega) c⟩)))))) <;> (simp only [putB_len]; omega)
theorem aB_feed {a b c e f : Int} (t1 : 0 ≤ h 1 1) (t2 : h 1 1 ≤ 1600) (hy : ∀ x h', feedP h a b c e f x h' → Q x h') : qC tFB (d + 2) k_c_feed [1, a, b, c, e, f] h Q := by
  refine qC_intro (TB_c_feed_0 _ _ _ _ _ _ _ _ _ _ ?_)
  rw [mAdd_ok (by omega) (by omega)]
  refine ⟨fun c1 => ?_, fun c1 => hy _ _ (Or.inr ⟨c1, rfl, rfl⟩)⟩
  have L := fedH_len (pick5 a b c e f) h
  have E1 : fedH (pick5 a b c e f) h 4 = putB (fbv a 0) (putB (fbv a 8) (putB (fbv a 16) (putB (fbv a 24) h))) := fedH4 (q := 0) (fun i i1 i2 => by unfold pick5; rw [if_pos (by omega)])
  have E2 : fedH (pick5 a b c e f) h 8 = putB (fbv b 0) (putB (fbv b 8) (putB (fbv b 16) (putB (fbv b 24) (fedH (pick5 a b c e f) h 4)))) := fedH4 (q := 1) (fun i i1 i2 => by unfold pick5; rw [if_neg (by omega), if_pos (by omega)])
  have E3 : fedH (pick5 a b c e f) h 12 = putB (fbv c 0) (putB (fbv c 8) (putB (fbv c 16) (putB (fbv c 24) (fedH (pick5 a b c e f) h 8)))) := fedH4 (q := 2) (fun i i1 i2 => by unfold pick5; rw [if_neg (by omega), if_neg (by omega), if_pos (by omega)])
  have E4 : fedH (pick5 a b c e f) h 16 = putB (fbv e 0) (putB (fbv e 8) (putB (fbv e 16) (putB (fbv e 24) (fedH (pick5 a b c e f) h 12)))) := fedH4 (q := 3) (fun i i1 i2 => by unfold pick5; rw [if_neg (by omega), if_neg (by omega), if_neg (by omega), if_pos (by omega)])
  have E5 : fedH (pick5 a b c e f) h 20 = putB (fbv f 0) (putB (fbv f 8) (putB (fbv f 16) (putB (fbv f 24) (fedH (pick5 a b c e f) h 16)))) := fedH4 (q := 4) (fun i i1 i2 => by unfold pick5; rw [if_neg (by omega), if_neg (by omega), if_neg (by omega), if_neg (by omega)])
  have L4 := L 4
  have L8 := L 8
  have L12 := L 12
  have L16 := L 16
  have L20 := L 20
  refine pB_feedNumber t1 (by omega) ?_
  rw [← E1]
  refine pB_feedNumber (by omega) (by omega) ?_
  rw [← E2]
  refine pB_feedNumber (by omega) (by omega) ?_
  rw [← E3]
  refine pB_feedNumber (by omega) (by omega) ?_
  rw [← E4]
  refine pB_feedNumber (by omega) (by omega) ?_
  rw [← E5]
  exact hy _ _ (Or.inl ⟨c1, by omega, rfl⟩)
end FEB
section FB
variable {d : Nat} {u : Int} {g g' h : mmH} {Q : Int → mmH → Prop}
theorem b_feed {a b c e f x : Int} (hu : u = 5 ∨ u = 46) (hC : Cy u g h) (hp : feedP g a b c e f x g') (hy : ∀ h', Fr (fun k _ => 282 ≤ k) h h' → Cy u g' h' → Q x h') : qC tFM (d + 1) k_m_feed [282, a, b, c, e, f] h Q := by
  have t := hC.1.2.2.1.1
  refine qC_intro (T_m_feed_0 _ _ _ _ _ _ _ _ _ _ ?_)
  rw [t.1, mAdd_ok (by omega) (by omega)]
  refine ⟨fun c1 => ?_, fun c1 => ?_⟩
  · rcases hp with ⟨-, rfl, rfl⟩ | ⟨q, -⟩
    · have key : ∀ (j n : Nat) (H : mmH) (w : mmV), n + j = 20 → Fr (fun k _ => 282 ≤ k) h H → Cy u (fedH (pick5 a b c e f) g n) H → qB tFM d k_m_feed (h 0 0) (h 0 1) Q 2 [(3, 282), (1, a), (1, b), (1, c), (1, e), (1, f), (1, (n : Int)), w] [] H := by
        intro j
        induction j with
        | zero =>
          intro n H w hn fH CH
          have hn2 : n = 20 := by omega
          subst hn2
          have L := fedH_len (pick5 a b c e f) g 20
          have e1 := CH.1.2.2.1.1.1
          refine T_m_feed_2 _ _ _ _ _ _ _ _ _ _ _ _ ⟨fun _ => ?_, fun c => absurd (by omega) c⟩
          rw [e1, show fedH (pick5 a b c e f) g 20 1 1 = g 1 1 + 20 by omega]
          exact hy H fH CH
        | succ j ih =>
          intro n H w hn fH CH
          have L := fedH_len (pick5 a b c e f) g n
          have tH := CH.1.2.2.1.1
          have blk : ∀ s, pick5 a b c e f n = s → qB tFM d k_m_feed (h 0 0) (h 0 1) Q 7 [(3, 282), (1, a), (1, b), (1, c), (1, e), (1, f), (1, (n : Int)), w] [(1, s)] H := by
            intro s hs
            refine T_m_feed_7 _ _ _ _ _ _ _ _ _ _ _ _ _ (mmD_of (by omega) ?_)
            have fb := fbv_ok s (24 - 8 * ((n : Int) % 4))
            rw [mRem_nn (by omega) (by omega) (by omega) (by omega), mSub_ok (by omega) (by omega), mMul_ok (by omega) (by omega), show 8 * (3 - (n : Int) % 4) = 24 - 8 * ((n : Int) % 4) by omega, fbv_shr (by omega) (by omega), mAdd_ok (a := (n : Int)) (by omega) (by omega), mAdd_ok (a := H 282 1) (by omega) (by omega), show (n : Int) + 1 = ((n + 1 : Nat) : Int) by omega]
            refine ih (n + 1) _ _ (by omega) ((fH.put (by omega)).put (by omega)) ?_
            show Cy u (putB (fbv (pick5 a b c e f n) (24 - 8 * ((n : Int) % 4))) (fedH (pick5 a b c e f) g n)) _
            rw [hs]
            exact Cy_putB hu CH (by omega) fb.1 fb.2
          refine T_m_feed_2 _ _ _ _ _ _ _ _ _ _ _ _ ⟨fun c => absurd c (by omega), fun _ => ⟨fun c4 => ⟨fun c8 => ⟨fun c12 => ⟨fun c16 => blk _ ?_, fun c16 => blk _ ?_⟩, fun c12 => blk _ ?_⟩, fun c8 => blk _ ?_⟩, fun c4 => blk _ ?_⟩⟩
          · unfold pick5; rw [if_neg (by omega), if_neg (by omega), if_neg (by omega), if_neg (by omega)]
          · unfold pick5; rw [if_neg (by omega), if_neg (by omega), if_neg (by omega), if_pos (by omega)]
          · unfold pick5; rw [if_neg (by omega), if_neg (by omega), if_pos (by omega)]
          · unfold pick5; rw [if_neg (by omega), if_pos (by omega)]
          · unfold pick5; rw [if_pos (by omega)]
      exact key 20 0 h _ (by omega) Fr.rf hC
    · exact absurd c1 q
  · rcases hp with ⟨q, -⟩ | ⟨-, rfl, rfl⟩
    · exact absurd q c1
    · exact hy _ Fr.rf hC
end FB
/-! ===== mm: an image ===== -/
def putS (b : Int) (g : mmH) : mmH := mmS (mmS g 101 (g 1 11) b) 1 11 (g 1 11 + 1)
def putW (b : Int) (h : mmH) : mmH := mmS (mmS h 335 (h 282 71) b) 282 71 (h 282 71 + 1)
def chkF (r : Int → Int) : Nat → Int
  | 0 => 131
  | n + 1 => (3 * chkF r n + r n) % 253
theorem chkF_ok (r : Int → Int) (n : Nat) : 0 ≤ chkF r n ∧ chkF r n < 253 := by
  cases n with
  | zero => unfold chkF; omega
  | succ n => unfold chkF; omega
theorem chkF_congr {r r' : Int → Int} : ∀ n : Nat, (∀ i : Int, 0 ≤ i → i < n → r i = r' i) → chkF r n = chkF r' n
  | 0, _ => rfl
  | n + 1, hr => by
    unfold chkF
    rw [chkF_congr n (fun i i1 i2 => hr i i1 (by omega)), hr n (by omega) (by omega)]
def ImK (k i : Int) : Prop := k = 101 ∨ (k = 1 ∧ i = 11)
theorem putS_fr (b : Int) (g : mmH) : Fr ImK g (putS b g) := by
  unfold putS
  exact (Fr.rf.put (Or.inl rfl)).put (Or.inr ⟨rfl, rfl⟩)
theorem putS_len (b : Int) (g : mmH) : putS b g 1 11 = g 1 11 + 1 := by unfold putS; rw [mmS_slot, if_pos rfl]
def imgA (g : mmH) : mmH := putS (g 86 1) (putS (g 86 0 % 256) (putS (g 86 0 / 256) (mmS g 1 11 0)))
def imgL (g G : mmH) : Nat → mmH
  | 0 => G
  | n + 1 => putS (g 87 n) (imgL g G n)
def imgQ (g G : mmH) : Nat → mmH
  | 0 => G
  | n + 1 => putS (g 89 n) (putS (g 88 n) (imgQ g G n))
noncomputable def imgO (g G : mmH) : Nat → mmH
  | 0 => G
  | n + 1 => putS (fbv (g 90 n) 0) (putS (fbv (g 90 n) 8) (putS (fbv (g 90 n) 16) (putS (fbv (g 90 n) 24) (imgO g G n))))
noncomputable def imgB (u : Int) (g : mmH) : mmH := imgO g (imgQ g (imgL g (imgA g) (g u 1).toNat) (g u 3).toNat) (g u 0).toNat
noncomputable def imgH (u : Int) (g : mmH) : mmH := putS (chkF (imgB u g 101) (imgB u g 1 11).toNat) (imgB u g)
theorem imgA_fr (g : mmH) : Fr ImK g (imgA g) := by
  unfold imgA
  exact (((Fr.rf.put (Or.inr ⟨rfl, rfl⟩)).tr (putS_fr _ _)).tr (putS_fr _ _)).tr (putS_fr _ _)
theorem imgL_fr (g G : mmH) : ∀ n, Fr ImK G (imgL g G n)
  | 0 => Fr.rf
  | n + 1 => (imgL_fr g G n).tr (putS_fr _ _)
theorem imgQ_fr (g G : mmH) : ∀ n, Fr ImK G (imgQ g G n)
  | 0 => Fr.rf
  | n + 1 => ((imgQ_fr g G n).tr (putS_fr _ _)).tr (putS_fr _ _)
theorem imgO_fr (g G : mmH) : ∀ n, Fr ImK G (imgO g G n)
  | 0 => Fr.rf
  | n + 1 => ((((imgO_fr g G n).tr (putS_fr _ _)).tr (putS_fr _ _)).tr (putS_fr _ _)).tr (putS_fr _ _)
theorem imgA_len (g : mmH) : imgA g 1 11 = 3 := by
  unfold imgA
  rw [putS_len, putS_len, putS_len, mmS_slot, if_pos rfl]
  rfl
theorem imgL_len (g G : mmH) : ∀ n : Nat, imgL g G n 1 11 = G 1 11 + n
  | 0 => by show G 1 11 = G 1 11 + ((0 : Nat) : Int); omega
  | n + 1 => by
    show putS _ (imgL g G n) 1 11 = _
    rw [putS_len, imgL_len g G n]; omega
theorem imgQ_len (g G : mmH) : ∀ n : Nat, imgQ g G n 1 11 = G 1 11 + 2 * n
  | 0 => by show G 1 11 = G 1 11 + 2 * ((0 : Nat) : Int); omega
  | n + 1 => by
    show putS _ (putS _ (imgQ g G n)) 1 11 = _
    rw [putS_len, putS_len, imgQ_len g G n]; omega
theorem imgO_len (g G : mmH) : ∀ n : Nat, imgO g G n 1 11 = G 1 11 + 4 * n
  | 0 => by show G 1 11 = G 1 11 + 4 * ((0 : Nat) : Int); omega
  | n + 1 => by
    show putS _ (putS _ (putS _ (putS _ (imgO g G n)))) 1 11 = _
    rw [putS_len, putS_len, putS_len, putS_len, imgO_len g G n]; omega
/-- bytes alone so far -/
def BtK (g : mmH) : Prop := ∀ i, 0 ≤ i → i < g 1 11 → 0 ≤ g 101 i ∧ g 101 i ≤ 255
theorem BtK_put {b : Int} {g : mmH} (b1 : 0 ≤ b) (b2 : b ≤ 255) (hB : BtK g) : BtK (putS b g) := fun i i1 i2 => by
  rw [putS_len] at i2
  unfold putS
  rw [mmS_cell (by omega), mmS_slot]
  split
  · exact ⟨b1, b2⟩
  · exact hB i i1 (by omega)
section IM
variable {u : Int} {g g' h h' : mmH}
theorem Cy_shot (hu : u = 5 ∨ u = 46) (hF : Fr ImK g g') (hG : Fr (fun k i => (k = 282 ∧ i = 71) ∨ k = 335) h h') (sh : cShot g' h') (hC : Cy u g h) : Cy u g' h' := by
  have f : ∀ k i, ¬ (k = 101 ∨ (k = 1 ∧ i = 11)) → g' k i = g k i := hF
  have m : ∀ k i, ¬ ((k = 282 ∧ i = 71) ∨ k = 335) → h' k i = h k i := hG
  refine Cy_io hu (hF.mono (fun k i q => by unfold ImK at q; omega)) (hG.mono (fun k i q => by omega)) ?_ ?_ sh ?_ hC
  · have := hC.1.2.2.1
    unfold cTape at this ⊢
    rw [f 1 1 (by omega), m 282 1 (by omega)]
    refine ⟨this.1, fun i i1 i2 => ?_⟩
    rw [f 2 i (by omega), m 283 i (by omega)]
    exact this.2 i i1 i2
  · have := hC.1.2.2.2.1
    unfold cSeed at this ⊢
    rw [f 1 8 (by omega), m 282 69 (by omega)]
    exact this
  · have := hC.1.2.2.2.2.2.1
    unfold cFault at this ⊢
    rw [f 3 0 (by omega), f 3 1 (by omega), m 282 7 (by omega), m 282 8 (by omega)]
    exact this
theorem Cy_putS {b : Int} (hu : u = 5 ∨ u = 46) (hC : Cy u g h) (hl : g 1 11 < 46) : Cy u (putS b g) (putW b h) := by
  have s := hC.1.2.2.2.2.1
  unfold putS putW
  refine Cy_shot hu ((Fr.rf.put (Or.inl rfl)).put (Or.inr ⟨rfl, rfl⟩)) ((Fr.rf.put (Or.inr rfl)).put (Or.inl ⟨rfl, rfl⟩)) ⟨⟨?_, ?_⟩, fun k k1 k2 => ?_⟩ hC
  · rw [mmS_slot, if_pos rfl, mmS_slot, if_pos rfl, s.1.1]
  · rw [mmS_slot, if_pos rfl]; have := s.1; omega
  · rw [mmS_slot, if_pos rfl] at k2
    rw [mmS_cell (by omega), mmS_slot, mmS_cell (by omega), mmS_slot, s.1.1]
    by_cases q : k = g 1 11
    · rw [if_pos q, if_pos q]
    · rw [if_neg q, if_neg q]; exact s.2 k k1 (by omega)
theorem Cy_shot0 (hu : u = 5 ∨ u = 46) (hC : Cy u g h) : Cy u (mmS g 1 11 0) (mmS h 282 71 0) := by
  refine Cy_shot hu (Fr.rf.put (Or.inr ⟨rfl, rfl⟩)) (Fr.rf.put (Or.inl ⟨rfl, rfl⟩)) ⟨⟨?_, ?_⟩, fun k k1 k2 => ?_⟩ hC
  · rw [mmS_slot, if_pos rfl, mmS_slot, if_pos rfl]
  · rw [mmS_slot, if_pos rfl]; omega
  · rw [mmS_slot, if_pos rfl] at k2; omega
/-- what one side's image rests on -/
theorem imgB_ok (hC : Cy u g h) : (∀ n : Nat, (n : Int) ≤ g u 1 → BtK (imgL g (imgA g) n)) ∧ (∀ n : Nat, (n : Int) ≤ g u 3 → BtK (imgQ g (imgL g (imgA g) (g u 1).toNat) n)) ∧ (∀ n : Nat, BtK (imgO g (imgQ g (imgL g (imgA g) (g u 1).toNat) (g u 3).toNat) n)) := by
  have hB := Nw_B hC.2
  have n1 := hC.1.1.1.2.1.2.1
  have n3 := hC.1.1.1.2.1.2.2.1
  have bA : BtK (imgA g) := by
    unfold imgA
    refine BtK_put (by have := hB.2.1; omega) (by have := hB.2.1; omega) (BtK_put (by omega) (by omega) (BtK_put (by have := hB.1; omega) (by have := hB.1; omega) (fun i i1 i2 => ?_)))
    rw [mmS_slot, if_pos rfl] at i2
    omega
  have bL : ∀ n : Nat, (n : Int) ≤ g u 1 → BtK (imgL g (imgA g) n) := by
    intro n
    induction n with
    | zero => intro _; exact bA
    | succ n ih =>
      intro hn
      have := hB.2.2.2.1 n (by omega) (by omega)
      exact BtK_put this.1 (by omega) (ih (by omega))
  have bQ : ∀ n : Nat, (n : Int) ≤ g u 3 → BtK (imgQ g (imgL g (imgA g) (g u 1).toNat) n) := by
    intro n
    induction n with
    | zero => intro _; exact bL _ (by omega)
    | succ n ih =>
      intro hn
      have := hB.2.2.2.2 n (by omega) (by omega)
      exact BtK_put this.2.1.1 (by omega) (BtK_put this.1.1 (by omega) (ih (by omega)))
  refine ⟨bL, bQ, fun n => ?_⟩
  induction n with
  | zero => exact bQ _ (by omega)
  | succ n ih =>
    have f := fun k => fbv_ok (g 90 n) k
    exact BtK_put (f 0).1 (f 0).2 (BtK_put (f 8).1 (f 8).2 (BtK_put (f 16).1 (f 16).2 (BtK_put (f 24).1 (f 24).2 ih)))
end IM
section IAA
variable {d : Nat} {h m0 : mmH} {Q : Int → mmH → Prop}
theorem pA_check101 {n : Nat} (n2 : n ≤ 46) (hb : ∀ i : Int, 0 ≤ i → i < n → 0 ≤ h 101 i ∧ h 101 i ≤ 255) (hy : Q (chkF (h 101) n) h) : qC tFA (d + 1) k_c_checkByte [101, (n : Int)] h Q := by
  refine qC_intro (TA101_c_checkByte_0 _ _ _ _ _ _ ?_)
  have key : ∀ (j k : Nat), k + j = n → qB tFA d k_c_checkByte (h 0 0) (h 0 1) Q 1 [(3, 101), (1, (n : Int)), (1, chkF (h 101) k), (1, (k : Int))] [] h := by
    intro j
    induction j with
    | zero =>
      intro k hk
      have e : k = n := by omega
      subst e
      exact TA101_c_checkByte_1 _ _ _ _ _ _ _ _ ⟨fun _ => hy, fun c => absurd (by omega) c⟩
    | succ j ih =>
      intro k hk
      have c := chkF_ok (h 101) k
      have b := hb k (by omega) (by omega)
      refine TA101_c_checkByte_1 _ _ _ _ _ _ _ _ ⟨fun c => absurd c (by omega), fun _ => ⟨fun c => absurd c (by omega), fun _ => mmD_of (by omega) ?_⟩⟩
      rw [mMul_ok (by omega) (by omega), mAdd_ok (a := 3 * chkF (h 101) k) (by omega) (by omega), mRem_nn (by omega) (by omega) (by omega) (by omega), mAdd_ok (a := (k : Int)) (by omega) (by omega), show (k : Int) + 1 = ((k + 1 : Nat) : Int) by omega]
      exact ih (k + 1) (by omega)
  exact key n 0 (by omega)
theorem pA_shoot {a b : Int} (n1 : 0 ≤ h 1 11) (n2 : h 1 11 < 46) (hb : a % 256 = b) (hy : Q 0 (putS b h)) : qC tFA (d + 1) k_c_shoot [1, a] h Q := by
  refine qC_intro (TA_c_shoot_0 _ _ _ _ _ _ ⟨fun c => absurd c (by omega), fun _ => mmD_of (by omega) ?_⟩)
  rw [mAnd255, hb, mAdd_ok (by omega) (by omega)]
  exact hy
theorem aA_image (hC : Cy 5 h m0) (hy : Q (imgH 5 h 1 11) (imgH 5 h)) : qC tFA (d + 2) k_c_image [1] h Q := by
  have hB := Nw_B hC.2
  have n0 := hC.1.1.1.2.1.1
  have n1 := hC.1.1.1.2.1.2.1
  have n3 := hC.1.1.1.2.1.2.2.1
  obtain ⟨bL, bQ, bO⟩ := imgB_ok hC
  have lA := imgA_len h
  have lL := imgL_len h (imgA h)
  have lQ := imgQ_len h (imgL h (imgA h) (h 5 1).toNat)
  have lO := imgO_len h (imgQ h (imgL h (imgA h) (h 5 1).toNat) (h 5 3).toNat)
  have fA : ∀ k i, ¬ ImK k i → imgA h k i = h k i := imgA_fr h
  have fL : ∀ n k i, ¬ ImK k i → imgL h (imgA h) n k i = h k i := fun n k i q => by rw [imgL_fr h (imgA h) n k i q, fA k i q]
  have fQ : ∀ n k i, ¬ ImK k i → imgQ h (imgL h (imgA h) (h 5 1).toNat) n k i = h k i := fun n k i q => by rw [imgQ_fr h _ n k i q, fL _ k i q]
  have fO : ∀ n k i, ¬ ImK k i → imgO h (imgQ h (imgL h (imgA h) (h 5 1).toNat) (h 5 3).toNat) n k i = h k i := fun n k i q => by rw [imgO_fr h _ n k i q, fQ _ k i q]
  have l1 := lL (h 5 1).toNat
  have l3 := lQ (h 5 3).toNat
  have l0 := lO (h 5 0).toNat
  have iv : ∀ (j k : Nat) (w : mmV), (k : Int) + j = h 5 0 → qB tFA (d + 1) k_c_image (h 0 0) (h 0 1) Q 5 [(3, 1), (1, (k : Int)), w] [] (imgO h (imgQ h (imgL h (imgA h) (h 5 1).toNat) (h 5 3).toNat) k) := by
    intro j
    induction j with
    | zero =>
      intro k w hk
      have ek : k = (h 5 0).toNat := by omega
      subst ek
      have b := bO (h 5 0).toNat
      refine TA_c_image_5 _ _ _ _ _ _ _ ⟨fun _ => ?_, fun c => absurd (by rw [fO _ 5 0 (by unfold ImK; omega)]; omega) c⟩
      have e11 : imgO h (imgQ h (imgL h (imgA h) (h 5 1).toNat) (h 5 3).toNat) (h 5 0).toNat 1 11 = (((imgO h (imgQ h (imgL h (imgA h) (h 5 1).toNat) (h 5 3).toNat) (h 5 0).toNat 1 11).toNat : Nat) : Int) := by omega
      rw [e11]
      have ck := chkF_ok (imgO h (imgQ h (imgL h (imgA h) (h 5 1).toNat) (h 5 3).toNat) (h 5 0).toNat 101) (imgO h (imgQ h (imgL h (imgA h) (h 5 1).toNat) (h 5 3).toNat) (h 5 0).toNat 1 11).toNat
      refine pA_check101 (by omega) (fun i i1 i2 => b i i1 (by omega)) (pA_shoot (by omega) (by omega) (Int.emod_eq_of_lt ck.1 (by omega)) hy)
    | succ j ih =>
      intro k w hk
      have lk := lO k
      have stp : ∀ (G : mmH) (s s' : Int), s' = s - 8 → 0 ≤ s → s ≤ 24 → 0 ≤ G 1 11 → G 1 11 < 46 → G 90 k = h 90 k → qB tFA (d + 1) k_c_image (h 0 0) (h 0 1) Q 6 [(3, 1), (1, (k : Int)), (1, s')] [] (putS (fbv (h 90 k) s) G) → qB tFA (d + 1) k_c_image (h 0 0) (h 0 1) Q 6 [(3, 1), (1, (k : Int)), (1, s)] [] G := by
        intro G s s' hs s1 s2 g1 g2 e90 q
        refine TA_c_image_6 _ _ _ _ _ _ _ ⟨fun c => absurd c (by omega), fun _ => mmD_of (by omega) (pA_shoot (b := fbv (h 90 k) s) g1 g2 ?_ ?_)⟩
        · rw [e90, ← mAnd255, fbv_shr s1 s2]
        · rw [mAdd_ok (a := s) (by omega) (by omega), show s + -8 = s' by omega]
          exact q
      have e90 : ∀ b G, G 90 k = h 90 k → putS b G 90 k = h 90 k := fun b G q => by rw [putS_fr b G 90 k (by unfold ImK; omega), q]
      have e0 := fO k 90 k (by unfold ImK; omega)
      refine TA_c_image_5 _ _ _ _ _ _ _ ⟨fun c => absurd c (by rw [fO _ 5 0 (by unfold ImK; omega)]; omega), fun _ => ?_⟩
      refine stp _ 24 16 (by omega) (by omega) (by omega) (by omega) (by omega) e0 (stp _ 16 8 (by omega) (by omega) (by omega) (by simp only [putS_len]; omega) (by simp only [putS_len]; omega) (e90 _ _ e0) (stp _ 8 0 (by omega) (by omega) (by omega) (by simp only [putS_len]; omega) (by simp only [putS_len]; omega) (e90 _ _ (e90 _ _ e0)) (stp _ 0 (-8) (by omega) (by omega) (by omega) (by simp only [putS_len]; omega) (by simp only [putS_len]; omega) (e90 _ _ (e90 _ _ (e90 _ _ e0))) ?_)))
      refine TA_c_image_6 _ _ _ _ _ _ _ ⟨fun _ => ?_, fun c => absurd (by omega) c⟩
      rw [mAdd_ok (a := (k : Int)) (by omega) (by omega), show (k : Int) + 1 = ((k + 1 : Nat) : Int) by omega]
      exact ih (k + 1) _ (by omega)
  have iq : ∀ (j k : Nat), (k : Int) + j = h 5 3 → qB tFA (d + 1) k_c_image (h 0 0) (h 0 1) Q 3 [(3, 1), (1, (k : Int)), (0, 0)] [] (imgQ h (imgL h (imgA h) (h 5 1).toNat) k) := by
    intro j
    induction j with
    | zero =>
      intro k hk
      have ek : k = (h 5 3).toNat := by omega
      subst ek
      exact TA_c_image_3 _ _ _ _ _ _ ⟨fun _ => iv (h 5 0).toNat 0 _ (by omega), fun c => absurd (by rw [fQ _ 5 3 (by unfold ImK; omega)]; omega) c⟩
    | succ j ih =>
      intro k hk
      have lk := lQ k
      have bk := hB.2.2.2.2 k (by omega) (by omega)
      refine TA_c_image_3 _ _ _ _ _ _ ⟨fun c => absurd c (by rw [fQ _ 5 3 (by unfold ImK; omega)]; omega), fun _ => mmD_of (by omega) (pA_shoot (b := h 88 k) (by omega) (by omega) ?_ (mmD_of (by omega) (pA_shoot (b := h 89 k) (by rw [putS_len]; omega) (by rw [putS_len]; omega) ?_ ?_)))⟩
      · rw [fQ k 88 k (by unfold ImK; omega)]; omega
      · rw [putS_fr _ _ 89 k (by unfold ImK; omega), fQ k 89 k (by unfold ImK; omega)]; omega
      · rw [mAdd_ok (a := (k : Int)) (by omega) (by omega), show (k : Int) + 1 = ((k + 1 : Nat) : Int) by omega]
        exact ih (k + 1) (by omega)
  have il : ∀ (j k : Nat), (k : Int) + j = h 5 1 → qB tFA (d + 1) k_c_image (h 0 0) (h 0 1) Q 1 [(3, 1), (1, (k : Int)), (0, 0)] [] (imgL h (imgA h) k) := by
    intro j
    induction j with
    | zero =>
      intro k hk
      have ek : k = (h 5 1).toNat := by omega
      subst ek
      exact TA_c_image_1 _ _ _ _ _ _ ⟨fun _ => iq (h 5 3).toNat 0 (by omega), fun c => absurd (by rw [fL _ 5 1 (by unfold ImK; omega)]; omega) c⟩
    | succ j ih =>
      intro k hk
      have lk := lL k
      have bk := hB.2.2.2.1 k (by omega) (by omega)
      refine TA_c_image_1 _ _ _ _ _ _ ⟨fun c => absurd c (by rw [fL _ 5 1 (by unfold ImK; omega)]; omega), fun _ => mmD_of (by omega) (pA_shoot (b := h 87 k) (by omega) (by omega) ?_ ?_)⟩
      · rw [fL k 87 k (by unfold ImK; omega)]; omega
      · rw [mAdd_ok (a := (k : Int)) (by omega) (by omega), show (k : Int) + 1 = ((k + 1 : Nat) : Int) by omega]
        exact ih (k + 1) (by omega)
  have s8 : mShr (h 86 0) 8 = h 86 0 / 256 := by
    rw [mShr_def]
    show (Int32.ofInt (h 86 0) >>> (Int32.ofInt 8 &&& 31)).toBitVec.toInt = _
    rw [Int32.toBitVec_shiftRight, BitVec.sshiftRight_eq', shiftN_32 (by omega) (by omega), BitVec.toInt_sshiftRight]
    show (Int32.ofInt (h 86 0)).toInt >>> 8 = _
    have := hB.1
    rw [Int32.toInt_ofInt_of_le (by omega) (by omega), Int.shiftRight_eq_div_pow]
    rfl
  refine qC_intro (TA_c_image_0 _ _ _ _ _ (pA_shoot (b := h 86 0 / 256) (by rw [mmS_slot, if_pos rfl]; omega) (by rw [mmS_slot, if_pos rfl]; omega) ?_ (pA_shoot (b := h 86 0 % 256) (by rw [putS_len, mmS_slot, if_pos rfl]; omega) (by rw [putS_len, mmS_slot, if_pos rfl]; omega) ?_ (pA_shoot (b := h 86 1) (by rw [putS_len, putS_len, mmS_slot, if_pos rfl]; omega) (by rw [putS_len, putS_len, mmS_slot, if_pos rfl]; omega) ?_ (il (h 5 1).toNat 0 (by omega))))))
  · rw [s8]; have := hB.1; omega
  · rw [putS_fr _ _ 86 0 (by unfold ImK; omega), mmS_cell (by omega)]
  · rw [putS_fr _ _ 86 1 (by unfold ImK; omega), putS_fr _ _ 86 1 (by unfold ImK; omega), mmS_cell (by omega)]; have := hB.2.1; omega
end IAA
section IAB
variable {d : Nat} {h m0 : mmH} {Q : Int → mmH → Prop}
theorem pB_check101 {n : Nat} (n2 : n ≤ 46) (hb : ∀ i : Int, 0 ≤ i → i < n → 0 ≤ h 101 i ∧ h 101 i ≤ 255) (hy : Q (chkF (h 101) n) h) : qC tFB (d + 1) k_c_checkByte [101, (n : Int)] h Q := by
  refine qC_intro (TB101_c_checkByte_0 _ _ _ _ _ _ ?_)
  have key : ∀ (j k : Nat), k + j = n → qB tFB d k_c_checkByte (h 0 0) (h 0 1) Q 1 [(3, 101), (1, (n : Int)), (1, chkF (h 101) k), (1, (k : Int))] [] h := by
    intro j
    induction j with
    | zero =>
      intro k hk
      have e : k = n := by omega
      subst e
      exact TB101_c_checkByte_1 _ _ _ _ _ _ _ _ ⟨fun _ => hy, fun c => absurd (by omega) c⟩
    | succ j ih =>
      intro k hk
      have c := chkF_ok (h 101) k
      have b := hb k (by omega) (by omega)
      refine TB101_c_checkByte_1 _ _ _ _ _ _ _ _ ⟨fun c => absurd c (by omega), fun _ => ⟨fun c => absurd c (by omega), fun _ => mmD_of (by omega) ?_⟩⟩
      rw [mMul_ok (by omega) (by omega), mAdd_ok (a := 3 * chkF (h 101) k) (by omega) (by omega), mRem_nn (by omega) (by omega) (by omega) (by omega), mAdd_ok (a := (k : Int)) (by omega) (by omega), show (k : Int) + 1 = ((k + 1 : Nat) : Int) by omega]
      exact ih (k + 1) (by omega)
  exact key n 0 (by omega)
theorem pB_shoot {a b : Int} (n1 : 0 ≤ h 1 11) (n2 : h 1 11 < 46) (hb : a % 256 = b) (hy : Q 0 (putS b h)) : qC tFB (d + 1) k_c_shoot [1, a] h Q := by
  refine qC_intro (TB_c_shoot_0 _ _ _ _ _ _ ⟨fun c => absurd c (by omega), fun _ => mmD_of (by omega) ?_⟩)
  rw [mAnd255, hb, mAdd_ok (by omega) (by omega)]
  exact hy
theorem aB_image (hC : Cy 46 h m0) (hy : Q (imgH 46 h 1 11) (imgH 46 h)) : qC tFB (d + 2) k_c_image [1] h Q := by
  have hB := Nw_B hC.2
  have n0 := hC.1.1.1.2.1.1
  have n1 := hC.1.1.1.2.1.2.1
  have n3 := hC.1.1.1.2.1.2.2.1
  obtain ⟨bL, bQ, bO⟩ := imgB_ok hC
  have lA := imgA_len h
  have lL := imgL_len h (imgA h)
  have lQ := imgQ_len h (imgL h (imgA h) (h 46 1).toNat)
  have lO := imgO_len h (imgQ h (imgL h (imgA h) (h 46 1).toNat) (h 46 3).toNat)
  have fA : ∀ k i, ¬ ImK k i → imgA h k i = h k i := imgA_fr h
  have fL : ∀ n k i, ¬ ImK k i → imgL h (imgA h) n k i = h k i := fun n k i q => by rw [imgL_fr h (imgA h) n k i q, fA k i q]
  have fQ : ∀ n k i, ¬ ImK k i → imgQ h (imgL h (imgA h) (h 46 1).toNat) n k i = h k i := fun n k i q => by rw [imgQ_fr h _ n k i q, fL _ k i q]
  have fO : ∀ n k i, ¬ ImK k i → imgO h (imgQ h (imgL h (imgA h) (h 46 1).toNat) (h 46 3).toNat) n k i = h k i := fun n k i q => by rw [imgO_fr h _ n k i q, fQ _ k i q]
  have l1 := lL (h 46 1).toNat
  have l3 := lQ (h 46 3).toNat
  have l0 := lO (h 46 0).toNat
  have iv : ∀ (j k : Nat) (w : mmV), (k : Int) + j = h 46 0 → qB tFB (d + 1) k_c_image (h 0 0) (h 0 1) Q 5 [(3, 1), (1, (k : Int)), w] [] (imgO h (imgQ h (imgL h (imgA h) (h 46 1).toNat) (h 46 3).toNat) k) := by
    intro j
    induction j with
    | zero =>
      intro k w hk
      have ek : k = (h 46 0).toNat := by omega
      subst ek
      have b := bO (h 46 0).toNat
      refine TB_c_image_5 _ _ _ _ _ _ _ ⟨fun _ => ?_, fun c => absurd (by rw [fO _ 46 0 (by unfold ImK; omega)]; omega) c⟩
      have e11 : imgO h (imgQ h (imgL h (imgA h) (h 46 1).toNat) (h 46 3).toNat) (h 46 0).toNat 1 11 = (((imgO h (imgQ h (imgL h (imgA h) (h 46 1).toNat) (h 46 3).toNat) (h 46 0).toNat 1 11).toNat : Nat) : Int) := by omega
      rw [e11]
      have ck := chkF_ok (imgO h (imgQ h (imgL h (imgA h) (h 46 1).toNat) (h 46 3).toNat) (h 46 0).toNat 101) (imgO h (imgQ h (imgL h (imgA h) (h 46 1).toNat) (h 46 3).toNat) (h 46 0).toNat 1 11).toNat
      refine pB_check101 (by omega) (fun i i1 i2 => b i i1 (by omega)) (pB_shoot (by omega) (by omega) (Int.emod_eq_of_lt ck.1 (by omega)) hy)
    | succ j ih =>
      intro k w hk
      have lk := lO k
      have stp : ∀ (G : mmH) (s s' : Int), s' = s - 8 → 0 ≤ s → s ≤ 24 → 0 ≤ G 1 11 → G 1 11 < 46 → G 90 k = h 90 k → qB tFB (d + 1) k_c_image (h 0 0) (h 0 1) Q 6 [(3, 1), (1, (k : Int)), (1, s')] [] (putS (fbv (h 90 k) s) G) → qB tFB (d + 1) k_c_image (h 0 0) (h 0 1) Q 6 [(3, 1), (1, (k : Int)), (1, s)] [] G := by
        intro G s s' hs s1 s2 g1 g2 e90 q
        refine TB_c_image_6 _ _ _ _ _ _ _ ⟨fun c => absurd c (by omega), fun _ => mmD_of (by omega) (pB_shoot (b := fbv (h 90 k) s) g1 g2 ?_ ?_)⟩
        · rw [e90, ← mAnd255, fbv_shr s1 s2]
        · rw [mAdd_ok (a := s) (by omega) (by omega), show s + -8 = s' by omega]
          exact q
      have e90 : ∀ b G, G 90 k = h 90 k → putS b G 90 k = h 90 k := fun b G q => by rw [putS_fr b G 90 k (by unfold ImK; omega), q]
      have e0 := fO k 90 k (by unfold ImK; omega)
      refine TB_c_image_5 _ _ _ _ _ _ _ ⟨fun c => absurd c (by rw [fO _ 46 0 (by unfold ImK; omega)]; omega), fun _ => ?_⟩
      refine stp _ 24 16 (by omega) (by omega) (by omega) (by omega) (by omega) e0 (stp _ 16 8 (by omega) (by omega) (by omega) (by simp only [putS_len]; omega) (by simp only [putS_len]; omega) (e90 _ _ e0) (stp _ 8 0 (by omega) (by omega) (by omega) (by simp only [putS_len]; omega) (by simp only [putS_len]; omega) (e90 _ _ (e90 _ _ e0)) (stp _ 0 (-8) (by omega) (by omega) (by omega) (by simp only [putS_len]; omega) (by simp only [putS_len]; omega) (e90 _ _ (e90 _ _ (e90 _ _ e0))) ?_)))
      refine TB_c_image_6 _ _ _ _ _ _ _ ⟨fun _ => ?_, fun c => absurd (by omega) c⟩
      rw [mAdd_ok (a := (k : Int)) (by omega) (by omega), show (k : Int) + 1 = ((k + 1 : Nat) : Int) by omega]
      exact ih (k + 1) _ (by omega)
  have iq : ∀ (j k : Nat), (k : Int) + j = h 46 3 → qB tFB (d + 1) k_c_image (h 0 0) (h 0 1) Q 3 [(3, 1), (1, (k : Int)), (0, 0)] [] (imgQ h (imgL h (imgA h) (h 46 1).toNat) k) := by
    intro j
    induction j with
    | zero =>
      intro k hk
      have ek : k = (h 46 3).toNat := by omega
      subst ek
      exact TB_c_image_3 _ _ _ _ _ _ ⟨fun _ => iv (h 46 0).toNat 0 _ (by omega), fun c => absurd (by rw [fQ _ 46 3 (by unfold ImK; omega)]; omega) c⟩
    | succ j ih =>
      intro k hk
      have lk := lQ k
      have bk := hB.2.2.2.2 k (by omega) (by omega)
      refine TB_c_image_3 _ _ _ _ _ _ ⟨fun c => absurd c (by rw [fQ _ 46 3 (by unfold ImK; omega)]; omega), fun _ => mmD_of (by omega) (pB_shoot (b := h 88 k) (by omega) (by omega) ?_ (mmD_of (by omega) (pB_shoot (b := h 89 k) (by rw [putS_len]; omega) (by rw [putS_len]; omega) ?_ ?_)))⟩
      · rw [fQ k 88 k (by unfold ImK; omega)]; omega
      · rw [putS_fr _ _ 89 k (by unfold ImK; omega), fQ k 89 k (by unfold ImK; omega)]; omega
      · rw [mAdd_ok (a := (k : Int)) (by omega) (by omega), show (k : Int) + 1 = ((k + 1 : Nat) : Int) by omega]
        exact ih (k + 1) (by omega)
  have il : ∀ (j k : Nat), (k : Int) + j = h 46 1 → qB tFB (d + 1) k_c_image (h 0 0) (h 0 1) Q 1 [(3, 1), (1, (k : Int)), (0, 0)] [] (imgL h (imgA h) k) := by
    intro j
    induction j with
    | zero =>
      intro k hk
      have ek : k = (h 46 1).toNat := by omega
      subst ek
      exact TB_c_image_1 _ _ _ _ _ _ ⟨fun _ => iq (h 46 3).toNat 0 (by omega), fun c => absurd (by rw [fL _ 46 1 (by unfold ImK; omega)]; omega) c⟩
    | succ j ih =>
      intro k hk
      have lk := lL k
      have bk := hB.2.2.2.1 k (by omega) (by omega)
      refine TB_c_image_1 _ _ _ _ _ _ ⟨fun c => absurd c (by rw [fL _ 46 1 (by unfold ImK; omega)]; omega), fun _ => mmD_of (by omega) (pB_shoot (b := h 87 k) (by omega) (by omega) ?_ ?_)⟩
      · rw [fL k 87 k (by unfold ImK; omega)]; omega
      · rw [mAdd_ok (a := (k : Int)) (by omega) (by omega), show (k : Int) + 1 = ((k + 1 : Nat) : Int) by omega]
        exact ih (k + 1) (by omega)
  have s8 : mShr (h 86 0) 8 = h 86 0 / 256 := by
    rw [mShr_def]
    show (Int32.ofInt (h 86 0) >>> (Int32.ofInt 8 &&& 31)).toBitVec.toInt = _
    rw [Int32.toBitVec_shiftRight, BitVec.sshiftRight_eq', shiftN_32 (by omega) (by omega), BitVec.toInt_sshiftRight]
    show (Int32.ofInt (h 86 0)).toInt >>> 8 = _
    have := hB.1
    rw [Int32.toInt_ofInt_of_le (by omega) (by omega), Int.shiftRight_eq_div_pow]
    rfl
  refine qC_intro (TB_c_image_0 _ _ _ _ _ (pB_shoot (b := h 86 0 / 256) (by rw [mmS_slot, if_pos rfl]; omega) (by rw [mmS_slot, if_pos rfl]; omega) ?_ (pB_shoot (b := h 86 0 % 256) (by rw [putS_len, mmS_slot, if_pos rfl]; omega) (by rw [putS_len, mmS_slot, if_pos rfl]; omega) ?_ (pB_shoot (b := h 86 1) (by rw [putS_len, putS_len, mmS_slot, if_pos rfl]; omega) (by rw [putS_len, putS_len, mmS_slot, if_pos rfl]; omega) ?_ (il (h 46 1).toNat 0 (by omega))))))
  · rw [s8]; have := hB.1; omega
  · rw [putS_fr _ _ 86 0 (by unfold ImK; omega), mmS_cell (by omega)]
  · rw [putS_fr _ _ 86 1 (by unfold ImK; omega), putS_fr _ _ 86 1 (by unfold ImK; omega), mmS_cell (by omega)]; have := hB.2.1; omega
end IAB
section IB
variable {d : Nat} {u : Int} {g g' h m : mmH} {Q : Int → mmH → Prop}
theorem q_m_writes {a : Int} (n1 : 0 ≤ h 282 71) (n2 : h 282 71 < 46) (hy : Q 0 (putW a h)) : qC tFM (d + 1) k_m_writes [282, a] h Q := by
  refine qC_intro (T_m_writes_0 _ _ _ _ _ _ (mmD_of (by omega) ?_))
  rw [mAdd_ok (by omega) (by omega)]
  exact hy
theorem q_m_checked335 {n : Nat} (n2 : n ≤ 46) (hb : ∀ i : Int, 0 ≤ i → i < n → 0 ≤ h 335 i ∧ h 335 i ≤ 255) (hy : Q (chkF (h 335) n) h) : qC tFM (d + 1) k_m_checked [335, (n : Int)] h Q := by
  refine qC_intro (TM335_m_checked_0 _ _ _ _ _ _ ?_)
  have key : ∀ (j k : Nat), k + j = n → qB tFM d k_m_checked (h 0 0) (h 0 1) Q 1 [(3, 335), (1, (n : Int)), (1, chkF (h 335) k), (1, (k : Int))] [] h := by
    intro j
    induction j with
    | zero =>
      intro k hk
      have e : k = n := by omega
      subst e
      exact TM335_m_checked_1 _ _ _ _ _ _ _ _ ⟨fun _ => hy, fun c => absurd (by omega) c⟩
    | succ j ih =>
      intro k hk
      have c := chkF_ok (h 335) k
      have b := hb k (by omega) (by omega)
      refine TM335_m_checked_1 _ _ _ _ _ _ _ _ ⟨fun c => absurd c (by omega), fun _ => mmD_of (by omega) ?_⟩
      rw [mMul_ok (by omega) (by omega), mAdd_ok (a := 3 * chkF (h 335) k) (by omega) (by omega), mRem_nn (by omega) (by omega) (by omega) (by omega), mAdd_ok (a := (k : Int)) (by omega) (by omega), show (k : Int) + 1 = ((k + 1 : Nat) : Int) by omega]
      exact ih (k + 1) (by omega)
  exact key n 0 (by omega)
/-- a byte more on both sides -/
theorem w_put {b : Int} {G : mmH} (hu : u = 5 ∨ u = 46) (hC : Cy u G h) (hl : G 1 11 < 46) (hF : Fr (fun k _ => 282 ≤ k) m h) (hy : ∀ h', Fr (fun k _ => 282 ≤ k) m h' → Cy u (putS b G) h' → Q 0 h') : qC tFM (d + 1) k_m_writes [282, b] h Q := by
  have s := hC.1.2.2.2.2.1.1
  refine q_m_writes (by omega) (by omega) (hy _ ?_ (Cy_putS hu hC hl))
  unfold putW
  exact (hF.put (by omega)).put (by omega)
theorem b_image (hu : u = 5 ∨ u = 46) (hC : Cy u g h) (hy : ∀ h', Fr (fun k _ => 282 ≤ k) h h' → Cy u (imgH u g) h' → Q (imgH u g 1 11) h') : qC tFM (d + 2) k_m_image [282] h Q := by
  have hB := Nw_B hC.2
  have n0 := hC.1.1.1.2.1.1
  have n1 := hC.1.1.1.2.1.2.1
  have n3 := hC.1.1.1.2.1.2.2.1
  obtain ⟨bL, bQ, bO⟩ := imgB_ok hC
  have lA := imgA_len g
  have lL := imgL_len g (imgA g)
  have lQ := imgQ_len g (imgL g (imgA g) (g u 1).toNat)
  have lO := imgO_len g (imgQ g (imgL g (imgA g) (g u 1).toNat) (g u 3).toNat)
  have fA : ∀ k i, ¬ ImK k i → imgA g k i = g k i := imgA_fr g
  have fL : ∀ n k i, ¬ ImK k i → imgL g (imgA g) n k i = g k i := fun n k i q => by rw [imgL_fr g (imgA g) n k i q, fA k i q]
  have fQ : ∀ n k i, ¬ ImK k i → imgQ g (imgL g (imgA g) (g u 1).toNat) n k i = g k i := fun n k i q => by rw [imgQ_fr g _ n k i q, fL _ k i q]
  have fO : ∀ n k i, ¬ ImK k i → imgO g (imgQ g (imgL g (imgA g) (g u 1).toNat) (g u 3).toNat) n k i = g k i := fun n k i q => by rw [imgO_fr g _ n k i q, fQ _ k i q]
  have l1 := lL (g u 1).toNat
  have l3 := lQ (g u 3).toNat
  have l0 := lO (g u 0).toNat
  have nu : ∀ i, ¬ ImK u i := fun i q => by unfold ImK at q; omega
  have iv : ∀ (j k : Nat) (w : mmV) (H : mmH), (k : Int) + j = g u 0 → Fr (fun k _ => 282 ≤ k) h H → Cy u (imgO g (imgQ g (imgL g (imgA g) (g u 1).toNat) (g u 3).toNat) k) H → qB tFM (d + 1) k_m_image (h 0 0) (h 0 1) Q 5 [(3, 282), (1, (k : Int)), w] [] H := by
    intro j
    induction j with
    | zero =>
      intro k w H hk fH CH
      have ek : k = (g u 0).toNat := by omega
      subst ek
      have b := bO (g u 0).toNat
      have sh := CH.1.2.2.2.2.1
      refine T_m_image_5 _ _ _ _ _ _ _ (q_m_ownerMany ⟨fun _ => ?_, fun c => absurd (by rw [CH.many.1, fO _ u 0 (nu 0)]; omega) c⟩)
      have e11 : H 282 71 = (((imgB u g 1 11).toNat : Nat) : Int) := by
        rw [sh.1.1]; unfold imgB; omega
      rw [e11]
      have ec : chkF (H 335) (imgB u g 1 11).toNat = chkF (imgB u g 101) (imgB u g 1 11).toNat := chkF_congr _ (fun i i1 i2 => sh.2 i i1 (by unfold imgB at i2; omega))
      refine q_m_checked335 (by unfold imgB; omega) (fun i i1 i2 => ?_) ?_
      · unfold imgB at i2
        rw [sh.2 i i1 (by omega)]
        exact b i i1 (by omega)
      · rw [ec]
        refine w_put (m := h) hu CH (by omega) fH (fun h' f' C' => ?_)
        have e := C'.1.2.2.2.2.1.1.1
        rw [e]
        exact hy h' f' C'
    | succ j ih =>
      intro k w H hk fH CH
      have lk := lO k
      have stp : ∀ (G H : mmH) (s s' : Int), s' = s - 8 → 0 ≤ s → s ≤ 24 → 0 ≤ G 1 11 → G 1 11 < 46 → G 90 k = g 90 k → G u 0 = g u 0 → Fr (fun k _ => 282 ≤ k) h H → Cy u G H → (∀ H', Fr (fun k _ => 282 ≤ k) h H' → Cy u (putS (fbv (g 90 k) s) G) H' → qB tFM (d + 1) k_m_image (h 0 0) (h 0 1) Q 6 [(3, 282), (1, (k : Int)), (1, s')] [] H') → qB tFM (d + 1) k_m_image (h 0 0) (h 0 1) Q 6 [(3, 282), (1, (k : Int)), (1, s)] [] H := by
        intro G H s s' hs s1 s2 g1 g2 e90 e0 fH CH q
        have pu := CH.2.2.2.2.2.2.1 k (by omega) (by omega)
        simp only [Int.reduceAdd, Int.zero_add] at pu
        refine T_m_image_6 _ _ _ _ _ _ _ ⟨fun c => absurd c (by omega), fun _ => ?_⟩
        rw [mmD_iff, mAdd_ok (a := 24) (by omega) (by omega), pu, e90, fbv_shr s1 s2, mAdd_ok (a := s) (by omega) (by omega), show s + -8 = s' by omega]
        refine ⟨by omega, ?_⟩
        refine w_put (m := h) hu CH g2 fH (fun H' f' C' => ?_)
        exact q H' f' C'
      have e90 : ∀ b G, G 90 k = g 90 k → putS b G 90 k = g 90 k := fun b G q => by rw [putS_fr b G 90 k (by unfold ImK; omega), q]
      have eu : ∀ b G, G u 0 = g u 0 → putS b G u 0 = g u 0 := fun b G q => by rw [putS_fr b G u 0 (nu 0), q]
      have e0 := fO k 90 k (by unfold ImK; omega)
      have z0 := fO k u 0 (nu 0)
      refine T_m_image_5 _ _ _ _ _ _ _ (q_m_ownerMany ⟨fun c => absurd c (by rw [CH.many.1, z0]; omega), fun _ => ?_⟩)
      refine stp _ H 24 16 (by omega) (by omega) (by omega) (by omega) (by omega) e0 z0 fH CH (fun H1 f1 C1 => stp _ H1 16 8 (by omega) (by omega) (by omega) (by simp only [putS_len]; omega) (by simp only [putS_len]; omega) (e90 _ _ e0) (eu _ _ z0) f1 C1 (fun H2 f2 C2 => stp _ H2 8 0 (by omega) (by omega) (by omega) (by simp only [putS_len]; omega) (by simp only [putS_len]; omega) (e90 _ _ (e90 _ _ e0)) (eu _ _ (eu _ _ z0)) f2 C2 (fun H3 f3 C3 => stp _ H3 0 (-8) (by omega) (by omega) (by omega) (by simp only [putS_len]; omega) (by simp only [putS_len]; omega) (e90 _ _ (e90 _ _ (e90 _ _ e0))) (eu _ _ (eu _ _ (eu _ _ z0))) f3 C3 (fun H4 f4 C4 => T_m_image_6 _ _ _ _ _ _ _ ⟨fun _ => ?_, fun c => absurd (by omega) c⟩))))
      rw [mAdd_ok (a := (k : Int)) (by omega) (by omega), show (k : Int) + 1 = ((k + 1 : Nat) : Int) by omega]
      exact ih (k + 1) _ H4 (by omega) f4 C4
  have iq : ∀ (j k : Nat) (H : mmH), (k : Int) + j = g u 3 → Fr (fun k _ => 282 ≤ k) h H → Cy u (imgQ g (imgL g (imgA g) (g u 1).toNat) k) H → qB tFM (d + 1) k_m_image (h 0 0) (h 0 1) Q 3 [(3, 282), (1, 2 * (k : Int)), (0, 0)] [] H := by
    intro j
    induction j with
    | zero =>
      intro k H hk fH CH
      have ek : k = (g u 3).toNat := by omega
      subst ek
      refine T_m_image_3 _ _ _ _ _ _ (q_m_personMany ?_)
      rw [CH.many.2.2.1, fQ _ u 3 (nu 3), mMul_ok (by omega) (by omega)]
      exact ⟨fun _ => iv (g u 0).toNat 0 _ H (by omega) fH CH, fun c => absurd (by omega) c⟩
    | succ j ih =>
      intro k H hk fH CH
      have lk := lQ k
      have at1 := CH.2.2.2.2.2.1 k (by omega) (by rw [fQ _ u 3 (nu 3)]; omega)
      simp only [Int.reduceAdd, Int.zero_add] at at1
      refine T_m_image_3 _ _ _ _ _ _ (q_m_personMany ?_)
      rw [mmD_iff, CH.many.2.2.1, fQ _ u 3 (nu 3), mMul_ok (by omega) (by omega), mAdd_ok (a := 12) (by omega) (by omega), at1.1, fQ k 88 k (by unfold ImK; omega)]
      refine ⟨fun c => absurd c (by omega), fun _ => ?_⟩
      refine ⟨by omega, ?_⟩
      refine w_put (m := h) hu CH (by omega) fH (fun H1 f1 C1 => ?_)
      rw [mAdd_ok (a := 2 * (k : Int)) (by omega) (by omega)]
      have at2 := C1.2.2.2.2.2.1 k (by omega) (by rw [putS_fr _ _ u 3 (nu 3), fQ _ u 3 (nu 3)]; omega)
      simp only [Int.reduceAdd, Int.zero_add] at at2
      refine T_m_image_3 _ _ _ _ _ _ (q_m_personMany ?_)
      rw [mmD_iff, C1.many.2.2.1, putS_fr _ _ u 3 (nu 3), fQ _ u 3 (nu 3), mMul_ok (by omega) (by omega), mAdd_ok (a := 12) (by omega) (by omega), show 12 + (2 * (k : Int) + 1) = 12 + 2 * k + 1 by omega, at2.2.1, putS_fr _ _ 89 k (by unfold ImK; omega), fQ k 89 k (by unfold ImK; omega)]
      refine ⟨fun c => absurd c (by omega), fun _ => ?_⟩
      refine ⟨by omega, ?_⟩
      refine w_put (m := h) hu C1 (by rw [putS_len]; omega) f1 (fun H2 f2 C2 => ?_)
      rw [mAdd_ok (a := 2 * (k : Int) + 1) (by omega) (by omega), show 2 * (k : Int) + 1 + 1 = 2 * ((k + 1 : Nat) : Int) by omega]
      exact ih (k + 1) H2 (by omega) f2 C2
  have il : ∀ (j k : Nat) (H : mmH), (k : Int) + j = g u 1 → Fr (fun k _ => 282 ≤ k) h H → Cy u (imgL g (imgA g) k) H → qB tFM (d + 1) k_m_image (h 0 0) (h 0 1) Q 1 [(3, 282), (1, (k : Int)), (0, 0)] [] H := by
    intro j
    induction j with
    | zero =>
      intro k H hk fH CH
      have ek : k = (g u 1).toNat := by omega
      subst ek
      exact T_m_image_1 _ _ _ _ _ _ (q_m_lotMany ⟨fun _ => iq (g u 3).toNat 0 H (by omega) fH CH, fun c => absurd (by rw [CH.many.2.1, fL _ u 1 (nu 1)]; omega) c⟩)
    | succ j ih =>
      intro k H hk fH CH
      have lk := lL k
      have ti := CH.2.2.2.2.1 k (by omega) (by rw [fL _ u 1 (nu 1)]; omega)
      simp only [Int.reduceAdd, Int.zero_add] at ti
      refine T_m_image_1 _ _ _ _ _ _ (q_m_lotMany ⟨fun c => absurd c (by rw [CH.many.2.1, fL _ u 1 (nu 1)]; omega), fun _ => q_m_tilesOf (by omega) (by omega) ?_⟩)
      rw [ti.1, fL k 87 k (by unfold ImK; omega)]
      refine w_put (m := h) hu CH (by omega) fH (fun H1 f1 C1 => ?_)
      rw [mAdd_ok (a := (k : Int)) (by omega) (by omega), show (k : Int) + 1 = ((k + 1 : Nat) : Int) by omega]
      exact ih (k + 1) H1 (by omega) f1 C1
  have hn : h 329 0 = g 86 0 := hC.2.1.1
  refine qC_intro (T_m_image_0 _ _ _ _ _ ?_)
  rw [hn, mDiv_nn hB.1.1 (by have := hB.1; omega) (by omega) (by omega)]
  refine w_put (m := h) (G := mmS g 1 11 0) hu (Cy_shot0 hu hC) (by rw [mmS_slot, if_pos rfl]; omega) (Fr.rf.put (by omega)) (fun H1 f1 C1 => ?_)
  have e0 := C1.2.1.1
  rw [e0, putS_fr _ _ 86 0 (by unfold ImK; omega), mmS_cell (by omega), mRem_nn hB.1.1 (by have := hB.1; omega) (by omega) (by omega)]
  refine w_put (m := h) hu C1 (by rw [putS_len, mmS_slot, if_pos rfl]; omega) f1 (fun H2 f2 C2 => ?_)
  have e1 := C2.2.2.1.1
  simp only [Int.reduceAdd, Int.zero_add] at e1
  rw [e1, putS_fr _ _ 86 1 (by unfold ImK; omega), putS_fr _ _ 86 1 (by unfold ImK; omega), mmS_cell (by omega)]
  refine w_put (m := h) hu C2 (by rw [putS_len, putS_len, mmS_slot, if_pos rfl]; omega) f2 (fun H3 f3 C3 => ?_)
  exact il (g u 1).toNat 0 H3 (by omega) f3 C3
end IB
