/-! ===== mm: an image taken from the tape: the reference ===== -/
section OM
variable {d : Nat} {u : Int} {g g' h : mmH} {Q : Int → mmH → Prop}
theorem isImg_iff {n : Int} (hu : u = 5 ∨ u = 46) : isImg u (mmS g 1 1 n) ↔ (n = 4 + g u 1 + 2 * g u 3 + 4 * g u 0 ∧ g 2 (4 + g u 1 + 2 * g u 3 + 4 * g u 0 - 1) = chkF (g 2) (4 + g u 1 + 2 * g u 3 + 4 * g u 0 - 1).toNat ∧ 256 * g 2 0 + g 2 1 ≤ 999 ∧ g 2 2 ≤ 9 ∧ (∀ l, 0 ≤ l → l < g u 1 → g 2 (3 + l) ≤ 30) ∧
      (∀ p, 0 ≤ p → p < g u 3 → (g 2 (3 + g u 1 + 2 * p) = g (u + 16 + p) 4 ∧ g 2 (3 + g u 1 + 2 * p + 1) = g (u + 16 + p) 5) ∨ (g 2 (3 + g u 1 + 2 * p) = g (u + 16 + p) 5 ∧ g 2 (3 + g u 1 + 2 * p + 1) = g (u + 16 + p) 4))) := by
  have eN : imgN u (mmS g 1 1 n) = 4 + g u 1 + 2 * g u 3 + 4 * g u 0 := by unfold imgN; rw [mmS_cell (by omega), mmS_cell (by omega), mmS_cell (by omega)]
  have e2 : mmS g 1 1 n 2 = g 2 := funext fun i => mmS_cell (by omega)
  have eL : mmS g 1 1 n u = g u := funext fun i => mmS_cell (by omega)
  have eP : ∀ p, 0 ≤ p → mmS g 1 1 n (u + 16 + p) = g (u + 16 + p) := fun p p0 => funext fun i => mmS_cell (by omega)
  unfold isImg
  rw [eN, e2, eL, mmS_slot, if_pos rfl]
  constructor
  · rintro ⟨a1, a2, a3, a4, a5, a6⟩
    exact ⟨a1, a2, a3, a4, a5, fun p p1 p2 => by have := a6 p p1 p2; rw [eP p p1] at this; exact this⟩
  · rintro ⟨a1, a2, a3, a4, a5, a6⟩
    exact ⟨a1, a2, a3, a4, a5, fun p p1 p2 => by have := a6 p p1 p2; rw [eP p p1]; exact this⟩
set_option maxRecDepth 100000 in
theorem q_m_checked283 {n : Nat} (n2 : n ≤ 1600) (hb : ∀ i : Int, 0 ≤ i → i < n → 0 ≤ h 283 i ∧ h 283 i ≤ 255) (hy : Q (chkF (h 283) n) h) : qC tFM (d + 1) k_m_checked [283, (n : Int)] h Q := by
  refine qC_intro (TM283_m_checked_0 _ _ _ _ _ _ ?_)
  have key : ∀ (j k : Nat), k + j = n → qB tFM d k_m_checked (h 0 0) (h 0 1) Q 1 [(3, 283), (1, (n : Int)), (1, chkF (h 283) k), (1, (k : Int))] [] h := by
    intro j
    induction j with
    | zero =>
      intro k hk
      have e : k = n := by omega
      subst e
      exact TM283_m_checked_1 _ _ _ _ _ _ _ _ ⟨fun _ => hy, fun c => absurd (by omega) c⟩
    | succ j ih =>
      intro k hk
      have c := chkF_ok (h 283) k
      have b := hb k (by omega) (by omega)
      refine TM283_m_checked_1 _ _ _ _ _ _ _ _ ⟨fun c => absurd c (by omega), fun _ => mmD_of (by omega) ?_⟩
      rw [mMul_ok (by omega) (by omega), mAdd_ok (a := 3 * chkF (h 283) k) (by omega) (by omega), mRem_nn (by omega) (by omega) (by omega) (by omega), mAdd_ok (a := (k : Int)) (by omega) (by omega), show (k : Int) + 1 = ((k + 1 : Nat) : Int) by omega]
      exact ih (k + 1) (by omega)
  exact key n 0 (by omega)
set_option maxRecDepth 100000 in
theorem q_m_isTold {n : Int} (hu : u = 5 ∨ u = 46) (hC : Cy u g h) (hy : ∀ x, YN x (isImg u (mmS g 1 1 n)) → Q x h) : qC tFM (d + 3) k_m_isTold [282, n] h Q := by
  obtain ⟨m0, m1, m2, m3, m4⟩ := hC.many
  have n0 := hC.1.1.1.2.1.1
  have n1 := hC.1.1.1.2.1.2.1
  have n3 := hC.1.1.1.2.1.2.2.1
  have t := hC.1.2.2.1.2
  have key := isImg_iff (g := g) (n := n) hu
  refine qC_intro (T_m_isTold_0 _ _ _ _ _ _ (q_m_lotMany (q_m_personMany (q_m_ownerMany ?_))))
  rw [m0, m1, m2]
  have due : mAdd (mAdd (mAdd 4 (g u 1)) (mMul 2 (g u 3))) (mMul 4 (g u 0)) = 4 + g u 1 + 2 * g u 3 + 4 * g u 0 := by
    rw [mMul_ok (a := 2) (by omega) (by omega), mMul_ok (a := 4) (by omega) (by omega), mAdd_ok (a := 4) (by omega) (by omega), mAdd_ok (b := 2 * g u 3) (by omega) (by omega), mAdd_ok (b := 4 * g u 0) (by omega) (by omega)]
  rw [due]
  refine T_m_isTold_0_15 _ _ _ _ _ _ _ ⟨fun c => hy _ (YN.no (fun q => c (key.mp q).1)), fun c => ?_⟩
  have c1 := Decidable.of_not_not c
  have en : n - 1 = (((n - 1).toNat : Nat) : Int) := by omega
  rw [mmD_iff, mSub_ok (by omega) (by omega)]
  refine ⟨by omega, ?_⟩
  have ec : chkF (h 283) (n - 1).toNat = chkF (g 2) (n - 1).toNat := chkF_congr _ (fun i i1 i2 => (t i i1 (by omega)).1)
  have ck : ∀ Q', Q' (chkF (g 2) (n - 1).toNat) h → qC tFM (d + 2) k_m_checked [283, n - 1] h Q' := fun Q' q => by
    rw [en]
    refine q_m_checked283 (by omega) (fun i i1 i2 => ?_) (by rw [ec]; exact q)
    have := t i i1 (by omega)
    rw [this.1]; exact this.2
  have t0 := t 0 (by omega) (by omega)
  have t1 := t 1 (by omega) (by omega)
  have t2 := t 2 (by omega) (by omega)
  have tn := t (n - 1) (by omega) (by omega)
  rw [← c1] at key
  refine ck _ (T_m_isTold_0_30 _ _ _ _ _ _ _ _ _ ?_)
  rw [tn.1, t0.1, t1.1, t2.1, mMul_ok (by omega) (by omega), mAdd_ok (by omega) (by omega)]
  refine ⟨fun c2 => hy _ (YN.no (fun q => c2 (key.mp q).2.1)), fun c2 => ⟨fun c3 => hy _ (YN.no (fun q => by have := (key.mp q).2.2.1; omega)), fun c3 => ⟨fun c4 => ?_, fun c4 => hy _ (YN.no (fun q => c4 (key.mp q).2.2.2.1))⟩⟩⟩
  have c2 := Decidable.of_not_not c2
  have lp : ∀ (hl : ∀ l, 0 ≤ l → l < g u 1 → g 2 (3 + l) ≤ 30) (j k : Nat) (w4 w5 w6 w7 : mmV), (k : Int) + j = g u 3 → (∀ p, 0 ≤ p → p < (k : Int) → (g 2 (3 + g u 1 + 2 * p) = g (u + 16 + p) 4 ∧ g 2 (3 + g u 1 + 2 * p + 1) = g (u + 16 + p) 5) ∨ (g 2 (3 + g u 1 + 2 * p) = g (u + 16 + p) 5 ∧ g 2 (3 + g u 1 + 2 * p + 1) = g (u + 16 + p) 4)) → qB tFM (d + 2) k_m_isTold (h 0 0) (h 0 1) Q 6 [(3, 282), (1, n), (1, n), (1, (k : Int)), w4, w5, w6, w7] [] h := by
    intro hl j
    induction j with
    | zero =>
      intro k w4 w5 w6 w7 hk hp
      exact T_m_isTold_6 _ _ _ _ _ _ _ _ _ _ _ _ (q_m_personMany ⟨fun _ => hy _ (YN.yes (key.mpr ⟨rfl, c2, by omega, c4, hl, fun p p1 p2 => hp p p1 (by omega)⟩)), fun c => absurd (by omega) c⟩)
    | succ j ih =>
      intro k w4 w5 w6 w7 hk hp
      have pr := (hC.1.1.2.2.1 k (by omega) (by omega)).1
      have p4 := pr 4 (by omega) (by omega)
      have p5 := pr 5 (by omega) (by omega)
      simp only [Int.mul_one] at p4 p5
      refine T_m_isTold_6 _ _ _ _ _ _ _ _ _ _ _ _ (q_m_personMany ⟨fun c => absurd c (by omega), fun _ => q_m_lotMany ?_⟩)
      rw [mmD_iff, m1, mMul_ok (by omega) (by omega), mAdd_ok (a := 3) (by omega) (by omega), mAdd_ok (b := 2 * (k : Int)) (by omega) (by omega), (t (3 + g u 1 + 2 * (k : Int)) (by omega) (by omega)).1]
      refine ⟨by omega, T_m_isTold_6_16 _ _ _ _ _ _ _ _ _ _ _ _ (q_m_lotMany ?_)⟩
      rw [mmD_iff, m1, mMul_ok (by omega) (by omega), mAdd_ok (a := 4) (by omega) (by omega), mAdd_ok (b := 2 * (k : Int)) (by omega) (by omega), show 4 + g u 1 + 2 * (k : Int) = 3 + g u 1 + 2 * (k : Int) + 1 by omega, (t (3 + g u 1 + 2 * (k : Int) + 1) (by omega) (by omega)).1]
      refine ⟨by omega, T_m_isTold_6_28 _ _ _ _ _ _ _ _ _ _ _ _ (q_m_personOf (by omega) (by omega) (by omega) (by omega) (q_m_personOf (by omega) (by omega) (by omega) (by omega) ?_))⟩
      rw [p4, p5, mAdd_ok (a := (k : Int)) (by omega) (by omega), show (k : Int) + 1 = ((k + 1 : Nat) : Int) by omega]
      have no : ¬ ((g 2 (3 + g u 1 + 2 * (k : Int)) = g (u + 16 + k) 4 ∧ g 2 (3 + g u 1 + 2 * (k : Int) + 1) = g (u + 16 + k) 5) ∨ (g 2 (3 + g u 1 + 2 * (k : Int)) = g (u + 16 + k) 5 ∧ g 2 (3 + g u 1 + 2 * (k : Int) + 1) = g (u + 16 + k) 4)) → Q 0 h := fun z => hy _ (YN.no (fun q => z ((key.mp q).2.2.2.2.2 k (by omega) (by omega))))
      have go : ∀ w4 w5 w6 w7, ((g 2 (3 + g u 1 + 2 * (k : Int)) = g (u + 16 + k) 4 ∧ g 2 (3 + g u 1 + 2 * (k : Int) + 1) = g (u + 16 + k) 5) ∨ (g 2 (3 + g u 1 + 2 * (k : Int)) = g (u + 16 + k) 5 ∧ g 2 (3 + g u 1 + 2 * (k : Int) + 1) = g (u + 16 + k) 4)) → qB tFM (d + 2) k_m_isTold (h 0 0) (h 0 1) Q 6 [(3, 282), (1, n), (1, n), (1, ((k + 1 : Nat) : Int)), w4, w5, w6, w7] [] h := fun w4 w5 w6 w7 z => by
        refine ih (k + 1) _ _ _ _ (by omega) (fun p p1 p2 => ?_)
        by_cases e : p = k
        · rw [e]; exact z
        · exact hp p p1 (by omega)
      exact ⟨fun z1 => ⟨fun z2 => no (by omega), fun z2 => ⟨fun z3 => go _ _ _ _ (by omega), fun z3 => no (by omega)⟩⟩, fun z1 => ⟨fun z2 => go _ _ _ _ (by omega), fun z2 => ⟨fun z3 => no (by omega), fun z3 => ⟨fun z4 => go _ _ _ _ (by omega), fun z4 => no (by omega)⟩⟩⟩⟩
  have ll : ∀ (j k : Nat), (k : Int) + j = g u 1 → (∀ l, 0 ≤ l → l < (k : Int) → g 2 (3 + l) ≤ 30) → qB tFM (d + 2) k_m_isTold (h 0 0) (h 0 1) Q 3 [(3, 282), (1, n), (1, n), (1, (k : Int)), (0, 0), (0, 0), (0, 0), (0, 0)] [] h := by
    intro j
    induction j with
    | zero =>
      intro k hk hl
      exact T_m_isTold_3 _ _ _ _ _ _ _ _ (q_m_lotMany ⟨fun _ => lp (fun l l1 l2 => hl l l1 (by omega)) (g u 3).toNat 0 _ _ _ _ (by omega) (fun p p1 p2 => absurd p2 (by omega)), fun c => absurd (by omega) c⟩)
    | succ j ih =>
      intro k hk hl
      refine T_m_isTold_3 _ _ _ _ _ _ _ _ (q_m_lotMany ?_)
      rw [mmD_iff, mAdd_ok (a := 3) (by omega) (by omega), mAdd_ok (a := (k : Int)) (by omega) (by omega), (t (3 + (k : Int)) (by omega) (by omega)).1]
      refine ⟨fun c => absurd c (by omega), fun _ => ⟨by omega, fun c5 => ?_, fun c5 => hy _ (YN.no (fun q => c5 ((key.mp q).2.2.2.2.1 k (by omega) (by omega))))⟩⟩
      rw [show (k : Int) + 1 = ((k + 1 : Nat) : Int) by omega]
      refine ih (k + 1) (by omega) (fun l l1 l2 => ?_)
      by_cases e : l = k
      · rw [e]; exact c5
      · exact hl l l1 (by omega)
  rw [← c1]
  exact ll (g u 1).toNat 0 (by omega) (fun l l1 l2 => absurd l2 (by omega))
/-- an image is taken over: coupled again -/
theorem Cy_on {h' : mmH} (hu : u = 5 ∨ u = 46) (hC : Cy u g h) (hI : isImg u g) (hN : onN u g g') (hG : Fr (fun k i => k = 329 ∨ (k = 282 ∧ (i = 1 ∨ i = 67))) h h') (z1 : h' 282 1 = 0) (z2 : h' 282 67 = 0)
    (a0 : h' 329 0 = 256 * g 2 0 + g 2 1) (a1 : h' 329 1 = g 2 2) (a2 : h' 329 29 = 0) (a3 : ∀ l, 0 ≤ l → l < g u 1 → h' 329 (2 + l) = g 2 (3 + l)) (a4 : ∀ k, 0 ≤ k → k < 2 * g u 3 → h' 329 (12 + k) = g 2 (3 + g u 1 + k))
    (a5 : ∀ q, 0 ≤ q → q < g u 0 → h' 329 (24 + q) = four (g 2 (3 + g u 1 + 2 * g u 3 + 4 * q)) (g 2 (3 + g u 1 + 2 * g u 3 + 4 * q + 1)) (g 2 (3 + g u 1 + 2 * g u 3 + 4 * q + 2)) (g 2 (3 + g u 1 + 2 * g u 3 + 4 * q + 3))) : Cy u g' h' := by
  obtain ⟨hF, b1, b2, b3, b4, b5, b6, b7, b8⟩ := hN
  obtain ⟨i1, i2, i3, i4, i5, i6⟩ := hI
  have f : ∀ k i, ¬ ((86 ≤ k ∧ k ≤ 94) ∨ (k = 1 ∧ (i = 1 ∨ i = 7))) → g' k i = g k i := hF
  have m : ∀ k i, ¬ (k = 329 ∨ (k = 282 ∧ (i = 1 ∨ i = 67))) → h' k i = h k i := hG
  obtain ⟨⟨cT, ⟨-, p2, -⟩, cTp, cS, cSh, cF, cO⟩, -⟩ := hC
  have n0 := cT.1.2.1.1
  have n1 := cT.1.2.1.2.1
  have n3 := cT.1.2.1.2.2.1
  have tB := fun i a b => (cTp.2 i a b).2
  have e0 := f u 0 (by omega)
  have e1 := f u 1 (by omega)
  have e3 := f u 3 (by omega)
  refine ⟨⟨Tn_frT (fun k i k1 k2 k3 => f k i (by omega)) (Tn_frM (fun k i q => m k i (by unfold TnM at q; omega)) cT), ⟨⟨?_, ?_⟩, ⟨?_, ?_⟩, fun i i1 i2 => ?_⟩, ⟨⟨?_, ?_⟩, fun i i1 i2 => ?_⟩, ?_, ?_, ?_, ?_⟩, ?_⟩
  · rw [z2, b2]
  · rw [b2]; omega
  · rw [m 282 68 (by omega), f 1 6 (by omega)]; exact p2.1
  · rw [f 1 6 (by omega)]; exact p2.2
  · rw [b2] at i2; omega
  · rw [z1, b1]
  · rw [b1]; omega
  · rw [m 283 i (by omega), f 2 i (by omega)]; exact cTp.2 i i1 i2
  · unfold cSeed at cS ⊢
    rw [f 1 8 (by omega), m 282 69 (by omega)]; exact cS
  · unfold cShot at cSh ⊢
    rw [f 1 11 (by omega), m 282 71 (by omega)]
    refine ⟨cSh.1, fun k k1 k2 => ?_⟩
    rw [f 101 k (by omega), m 335 k (by omega)]; exact cSh.2 k k1 k2
  · unfold cFault at cF ⊢
    rw [f 3 0 (by omega), f 3 1 (by omega), m 282 7 (by omega), m 282 8 (by omega)]; exact cF
  · unfold cOwn at cO ⊢
    intro k k1 k2
    rw [f 45 k (by omega)]; exact cO k k1 k2
  · have t0 := tB 0 (by omega) (by omega)
    have t1 := tB 1 (by omega) (by omega)
    have t2 := tB 2 (by omega) (by omega)
    unfold Nw
    simp only [Int.reduceAdd, Int.zero_add]
    rw [e0, e1, e3, b3, b4, b5, a0, a1, a2]
    refine ⟨⟨rfl, by omega, i3⟩, ⟨rfl, by omega, i4⟩, ⟨rfl, by omega, by omega⟩, fun l l1 l2 => ?_, fun p p1 p2 => ?_, fun q q1 q2 => ?_, fun k k1 k2 => ?_⟩
    · rw [a3 l l1 l2, b6 l l1 l2]
      exact ⟨rfl, (tB (3 + l) (by omega) (by omega)).1, i5 l l1 l2⟩
    · obtain ⟨c1, c2⟩ := b7 p p1 p2
      have cp := (cT.2.2.1 p p1 p2).2.2.2.2.2
      have ip := i6 p p1 p2
      rw [c1, c2, a4 (2 * p) (by omega) (by omega), show 12 + 2 * p + 1 = 12 + (2 * p + 1) by omega, a4 (2 * p + 1) (by omega) (by omega), show 3 + g u 1 + (2 * p + 1) = 3 + g u 1 + 2 * p + 1 by omega]
      refine ⟨rfl, rfl, ?_⟩
      omega
    · rw [a5 q q1 q2, b8 q q1 q2]
    · omega
set_option maxRecDepth 100000 in
theorem b_on {x : Int} (hu : u = 5 ∨ u = 46) (hC : Cy u g h) (hp : onP u g x g') (hy : ∀ h', Fr (fun k _ => 282 ≤ k) h h' → Cy u g' h' → Q x h') : qC tFM (d + 4) k_m_on [282] h Q := by
  have n0 := hC.1.1.1.2.1.1
  have n1 := hC.1.1.1.2.1.2.1
  have n3 := hC.1.1.1.2.1.2.2.1
  obtain ⟨m0, m1, m2, m3, m4⟩ := hC.many
  have tp := hC.1.2.2.1
  have C0 : Cy u (mmS g 1 1 0) (mmS h 282 1 0) := by
    refine Cy_tape hu (Fr.rf.put (Or.inl ⟨rfl, rfl⟩)) (Fr.rf.put (Or.inl ⟨rfl, rfl⟩)) ⟨⟨?_, ?_⟩, fun i i1 i2 => ?_⟩ hC
    · rw [mmS_slot, if_pos rfl, mmS_slot, if_pos rfl]
    · rw [mmS_slot, if_pos rfl]; omega
    · rw [mmS_cell (by omega), mmS_cell (by omega)]; exact tp.2 i i1 i2
  have back : mmS (mmS g 1 1 0) 1 1 (g 1 1) = g := by
    funext k i
    by_cases e : k = 1
    · subst e
      rw [mmS_slot, mmS_slot]
      by_cases e2 : i = 1
      · rw [if_pos e2, e2]
      · rw [if_neg e2, if_neg e2]
    · rw [mmS_cell e, mmS_cell e]
  have f0 : Fr (fun k i => k = 329 ∨ (k = 282 ∧ (i = 1 ∨ i = 67))) h (mmS h 282 1 0) := Fr.rf.put (by omega)
  have z0 : mmS h 282 1 0 282 1 = 0 := by rw [mmS_slot, if_pos rfl]
  refine qC_intro (T_m_on_0 _ _ _ _ _ ?_)
  rw [tp.1.1]
  refine q_m_isTold hu C0 (fun y hyy => ?_)
  rw [back] at hyy
  refine ⟨fun c => ?_, fun c => ?_⟩
  · have hI := hyy.pos c
    rcases hp with ⟨q, -⟩ | ⟨-, rfl, hN⟩
    · exact absurd hI q
    · have t : ∀ i, 0 ≤ i → i < 1600 → mmS h 282 1 0 283 i = g 2 i := fun i i1 i2 => by rw [mmS_cell (by omega)]; exact (tp.2 i i1 i2).1
      have b0 := (tp.2 0 (by omega) (by omega)).2
      have b1 := (tp.2 1 (by omega) (by omega)).2
      rw [t 0 (by omega) (by omega), t 1 (by omega) (by omega), t 2 (by omega) (by omega), mMul_ok (by omega) (by omega), mAdd_ok (by omega) (by omega)]
      have M5 : mmS h 282 1 0 313 5 = g u 0 := by rw [mmS_cell (by omega), m0]
      have M6 : mmS h 282 1 0 313 6 = g u 1 := by rw [mmS_cell (by omega), m1]
      have M7 : mmS h 282 1 0 313 7 = g u 3 := by rw [mmS_cell (by omega), m2]
      generalize hh0 : mmS h 282 1 0 = h0 at f0 z0 t M5 M6 M7 ⊢
      have fr1 : Fr (fun k _ => k = 329) h0 (mmS (mmS h0 329 0 (256 * g 2 0 + g 2 1)) 329 1 (g 2 2)) := (Fr.rf.put (by omega)).put (by omega)
      have s0 : mmS (mmS h0 329 0 (256 * g 2 0 + g 2 1)) 329 1 (g 2 2) 329 0 = 256 * g 2 0 + g 2 1 := by rw [mmS_slot, if_neg (by omega), mmS_slot, if_pos rfl]
      have s1 : mmS (mmS h0 329 0 (256 * g 2 0 + g 2 1)) 329 1 (g 2 2) 329 1 = g 2 2 := by rw [mmS_slot, if_pos rfl]
      have lo : ∀ (j k : Nat) (w4 w5 : mmV) (H : mmH), (k : Int) + j = g u 0 → Fr (fun k _ => k = 329) h0 H → H 329 0 = 256 * g 2 0 + g 2 1 → H 329 1 = g 2 2 → (∀ l, 0 ≤ l → l < g u 1 → H 329 (2 + l) = g 2 (3 + l)) → (∀ k, 0 ≤ k → k < 2 * g u 3 → H 329 (12 + k) = g 2 (3 + g u 1 + k)) → (∀ q, 0 ≤ q → q < (k : Int) → H 329 (24 + q) = four (g 2 (3 + g u 1 + 2 * g u 3 + 4 * q)) (g 2 (3 + g u 1 + 2 * g u 3 + 4 * q + 1)) (g 2 (3 + g u 1 + 2 * g u 3 + 4 * q + 2)) (g 2 (3 + g u 1 + 2 * g u 3 + 4 * q + 3))) →
          qB tFM (d + 3) k_m_on (h 0 0) (h 0 1) Q 6 [(3, 282), (1, g 1 1), (1, 3 + g u 1 + 2 * g u 3), (1, (k : Int)), w4, w5] [] H := by
        intro j
        induction j with
        | zero =>
          intro k w4 w5 H hk fH a0 a1 a3 a4 a5
          refine T_m_on_6 _ _ _ _ _ _ _ _ _ _ (q_m_ownerMany ⟨fun _ => ?_, fun c => absurd (by rw [fH 313 5 (by omega), M5]; omega) c⟩)
          have sl : ∀ i, mmS (mmS H 329 29 0) 282 67 0 329 i = if i = 29 then 0 else H 329 i := fun i => by rw [mmS_cell (by omega), mmS_slot]
          have fr : Fr (fun k i => k = 329 ∨ (k = 282 ∧ (i = 1 ∨ i = 67))) h (mmS (mmS H 329 29 0) 282 67 0) := ((f0.tr (fH.mono (fun k i q => Or.inl q))).put (Or.inl rfl)).put (by omega)
          refine hy _ (fr.mono (fun k i q => by omega)) (Cy_on hu hC hI hN fr ?_ ?_ ?_ ?_ ?_ (fun l l1 l2 => ?_) (fun i i1 i2 => ?_) (fun q q1 q2 => ?_))
          · rw [mmS_slot, if_neg (by omega), mmS_cell (by omega), fH 282 1 (by omega)]; exact z0
          · rw [mmS_slot, if_pos rfl]
          · rw [sl, if_neg (by omega)]; exact a0
          · rw [sl, if_neg (by omega)]; exact a1
          · rw [sl, if_pos rfl]
          · rw [sl, if_neg (by omega)]; exact a3 l l1 l2
          · rw [sl, if_neg (by omega)]; exact a4 i i1 i2
          · rw [sl, if_neg (by omega)]; exact a5 q q1 (by omega)
        | succ j ih =>
          intro k w4 w5 H hk fH a0 a1 a3 a4 a5
          have tH : ∀ i, 0 ≤ i → i < 1600 → H 283 i = g 2 i := fun i i1 i2 => by rw [fH 283 i (by omega)]; exact t i i1 i2
          have st : ∀ (v e b : Int) (e' : Int), 0 ≤ e → e < 4 → e' = e + 1 → g 2 (3 + g u 1 + 2 * g u 3 + 4 * (k : Int) + e) = b → qB tFM (d + 3) k_m_on (h 0 0) (h 0 1) Q 7 [(3, 282), (1, g 1 1), (1, 3 + g u 1 + 2 * g u 3), (1, (k : Int)), (1, mOr (mShl v 8) b), (1, e')] [] H → qB tFM (d + 3) k_m_on (h 0 0) (h 0 1) Q 7 [(3, 282), (1, g 1 1), (1, 3 + g u 1 + 2 * g u 3), (1, (k : Int)), (1, v), (1, e)] [] H := by
            intro v e b e' q1 q2 q3 q4 q
            refine T_m_on_7 _ _ _ _ _ _ _ _ _ _ ⟨fun c => absurd c (by omega), fun _ => ?_⟩
            rw [mmD_iff, mMul_ok (by omega) (by omega), mAdd_ok (b := 4 * (k : Int)) (by omega) (by omega), mAdd_ok (b := e) (by omega) (by omega), mAdd_ok (b := 1) (by omega) (by omega), tH _ (by omega) (by omega), q4, ← q3]
            exact ⟨by omega, q⟩
          refine T_m_on_6 _ _ _ _ _ _ _ _ _ _ (q_m_ownerMany ⟨fun c => absurd c (by rw [fH 313 5 (by omega), M5]; omega), fun _ => ?_⟩)
          refine st 0 0 (g 2 (3 + g u 1 + 2 * g u 3 + 4 * (k : Int))) 1 (by omega) (by omega) (by omega) (by rw [Int.add_zero]) ?_
          refine st _ 1 (g 2 (3 + g u 1 + 2 * g u 3 + 4 * (k : Int) + 1)) 2 (by omega) (by omega) (by omega) rfl ?_
          refine st _ 2 (g 2 (3 + g u 1 + 2 * g u 3 + 4 * (k : Int) + 2)) 3 (by omega) (by omega) (by omega) rfl ?_
          refine st _ 3 (g 2 (3 + g u 1 + 2 * g u 3 + 4 * (k : Int) + 3)) 4 (by omega) (by omega) (by omega) rfl ?_
          rw [four_ref]
          refine T_m_on_7 _ _ _ _ _ _ _ _ _ _ ⟨fun _ => ?_, fun c => absurd (by omega) c⟩
          rw [mmD_iff, mAdd_ok (a := 24) (by omega) (by omega), mAdd_ok (b := 1) (by omega) (by omega), show (k : Int) + 1 = ((k + 1 : Nat) : Int) by omega]
          refine ⟨by omega, ih (k + 1) _ _ _ (by omega) (fH.put rfl) (by rw [mmS_slot, if_neg (by omega)]; exact a0) (by rw [mmS_slot, if_neg (by omega)]; exact a1) (fun l l1 l2 => by rw [mmS_slot, if_neg (by omega)]; exact a3 l l1 l2) (fun i i1 i2 => by rw [mmS_slot, if_neg (by omega)]; exact a4 i i1 i2) (fun q q1 q2 => ?_)⟩
          rw [mmS_slot]
          by_cases e : q = k
          · rw [if_pos (by omega), e]
          · rw [if_neg (by omega)]; exact a5 q q1 (by omega)
      have lp : ∀ (j k : Nat) (H : mmH), (k : Int) + j = 2 * g u 3 → Fr (fun k _ => k = 329) h0 H → H 329 0 = 256 * g 2 0 + g 2 1 → H 329 1 = g 2 2 → (∀ l, 0 ≤ l → l < g u 1 → H 329 (2 + l) = g 2 (3 + l)) → (∀ i, 0 ≤ i → i < (k : Int) → H 329 (12 + i) = g 2 (3 + g u 1 + i)) → qB tFM (d + 3) k_m_on (h 0 0) (h 0 1) Q 4 [(3, 282), (1, g 1 1), (1, (k : Int)), (0, 0), (0, 0), (0, 0)] [] H := by
        intro j
        induction j with
        | zero =>
          intro k H hk fH a0 a1 a3 a4
          refine T_m_on_4 _ _ _ _ _ _ _ (q_m_personMany ?_)
          rw [fH 313 7 (by omega), M7, mMul_ok (by omega) (by omega)]
          refine ⟨fun _ => q_m_lotMany (q_m_personMany ?_), fun c => absurd (by omega) c⟩
          rw [fH 313 6 (by omega), M6, fH 313 7 (by omega), M7, mMul_ok (by omega) (by omega), mAdd_ok (a := 3) (by omega) (by omega), mAdd_ok (b := 2 * g u 3) (by omega) (by omega)]
          exact lo (g u 0).toNat 0 _ _ H (by omega) fH a0 a1 a3 (fun i i1 i2 => a4 i i1 (by omega)) (fun q q1 q2 => absurd q2 (by omega))
        | succ j ih =>
          intro k H hk fH a0 a1 a3 a4
          refine T_m_on_4 _ _ _ _ _ _ _ (q_m_personMany ?_)
          rw [fH 313 7 (by omega), M7, mMul_ok (by omega) (by omega)]
          refine ⟨fun c => absurd c (by omega), fun _ => q_m_lotMany ?_⟩
          rw [mmD_iff, mmD_iff, fH 313 6 (by omega), M6, mAdd_ok (a := 3) (by omega) (by omega), mAdd_ok (a := 3 + g u 1) (by omega) (by omega), mAdd_ok (a := 12) (by omega) (by omega), mAdd_ok (a := (k : Int)) (by omega) (by omega), fH 283 _ (by omega), t _ (by omega) (by omega), show (k : Int) + 1 = ((k + 1 : Nat) : Int) by omega]
          refine ⟨by omega, by omega, ih (k + 1) _ (by omega) (fH.put rfl) (by rw [mmS_slot, if_neg (by omega)]; exact a0) (by rw [mmS_slot, if_neg (by omega)]; exact a1) (fun l l1 l2 => by rw [mmS_slot, if_neg (by omega)]; exact a3 l l1 l2) (fun i i1 i2 => ?_)⟩
          rw [mmS_slot]
          by_cases e : i = k
          · rw [if_pos (by omega), e]
          · rw [if_neg (by omega)]; exact a4 i i1 (by omega)
      have ll : ∀ (j k : Nat) (H : mmH), (k : Int) + j = g u 1 → Fr (fun k _ => k = 329) h0 H → H 329 0 = 256 * g 2 0 + g 2 1 → H 329 1 = g 2 2 → (∀ l, 0 ≤ l → l < (k : Int) → H 329 (2 + l) = g 2 (3 + l)) → qB tFM (d + 3) k_m_on (h 0 0) (h 0 1) Q 2 [(3, 282), (1, g 1 1), (1, (k : Int)), (0, 0), (0, 0), (0, 0)] [] H := by
        intro j
        induction j with
        | zero =>
          intro k H hk fH a0 a1 a3
          refine T_m_on_2 _ _ _ _ _ _ _ (q_m_lotMany ⟨fun _ => lp (2 * g u 3).toNat 0 H (by omega) fH a0 a1 (fun l l1 l2 => a3 l l1 (by omega)) (fun i i1 i2 => absurd i2 (by omega)), fun c => absurd (by rw [fH 313 6 (by omega), M6]; omega) c⟩)
        | succ j ih =>
          intro k H hk fH a0 a1 a3
          refine T_m_on_2 _ _ _ _ _ _ _ (q_m_lotMany ⟨fun c => absurd c (by rw [fH 313 6 (by omega), M6]; omega), fun _ => ?_⟩)
          rw [mmD_iff, mmD_iff, mAdd_ok (a := 3) (by omega) (by omega), mAdd_ok (a := 2) (by omega) (by omega), mAdd_ok (a := (k : Int)) (by omega) (by omega), fH 283 _ (by omega), t _ (by omega) (by omega), show (k : Int) + 1 = ((k + 1 : Nat) : Int) by omega]
          refine ⟨by omega, by omega, ih (k + 1) _ (by omega) (fH.put rfl) (by rw [mmS_slot, if_neg (by omega)]; exact a0) (by rw [mmS_slot, if_neg (by omega)]; exact a1) (fun l l1 l2 => ?_)⟩
          rw [mmS_slot]
          by_cases e : l = k
          · rw [if_pos (by omega), e]
          · rw [if_neg (by omega)]; exact a3 l l1 (by omega)
      exact ll (g u 1).toNat 0 _ (by omega) fr1 s0 s1 (fun l l1 l2 => absurd l2 (by omega))
  · rcases hp with ⟨-, rfl, rfl⟩ | ⟨q, -⟩
    · exact hy _ (f0.mono (fun k i q => by omega)) C0
    · exact absurd q (hyy.neg (Decidable.of_not_not c))
end OM
