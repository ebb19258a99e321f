/-! ===== mm: seed, end, snow, patch, undo: the reference ===== -/
section SB
variable {d : Nat} {u : Int} {g g' h : mmH} {Q : Int → mmH → Prop}
theorem Cy.many (hC : Cy u g h) : h 313 5 = g u 0 ∧ h 313 6 = g u 1 ∧ h 313 7 = g u 3 ∧ h 313 8 = g u 2 ∧ h 313 9 = g (u + 33) 0 := by
  have := hC.1.1.1.1
  simp only [Int.mul_one, Int.reduceAdd] at this
  exact this
theorem b_seed {a x : Int} (hu : u = 5 ∨ u = 46) (hC : Cy u g h) (ia : InI a) (hp : seedP g a x g') (hy : ∀ h', Fr (fun k _ => 282 ≤ k) h h' → Cy u g' h' → Q x h') : qC tFM (d + 1) k_m_seed [282, a] h Q := by
  obtain ⟨i1, i2⟩ := ia
  refine qC_intro (T_m_seed_0 _ _ _ _ _ _ ⟨fun c => ?_, fun c => ?_⟩)
  · rcases hp with ⟨-, rfl, rfl⟩ | ⟨q, -⟩
    · refine hy _ (Fr.rf.put (by omega)) (Cy_io hu (Fr.rf.put (by omega)) (Fr.rf.put (by omega)) ?_ ⟨?_, ?_, ?_⟩ ?_ ?_ hC)
      · have := hC.1.2.2.1
        unfold cTape at this ⊢
        rw [mmS_slot, if_neg (by omega), mmS_slot, if_neg (by omega)]
        refine ⟨this.1, fun i i1 i2 => ?_⟩
        rw [mmS_cell (by omega), mmS_cell (by omega)]
        exact this.2 i i1 i2
      · rw [mmS_slot, mmS_slot, if_pos rfl, if_pos rfl]
      · rw [mmS_slot, if_pos rfl]; exact c
      · rw [mmS_slot, if_pos rfl]; omega
      · have := hC.1.2.2.2.2.1
        unfold cShot at this ⊢
        rw [mmS_slot, if_neg (by omega), mmS_slot, if_neg (by omega)]
        refine ⟨this.1, fun k k1 k2 => ?_⟩
        rw [mmS_cell (by omega), mmS_cell (by omega)]
        exact this.2 k k1 k2
      · have := hC.1.2.2.2.2.2.1
        unfold cFault at this ⊢
        rw [mmS_slot, if_neg (by omega), mmS_slot, if_neg (by omega), mmS_cell (by omega), mmS_cell (by omega)]
        exact this
    · exact absurd c q
  · rcases hp with ⟨q, -⟩ | ⟨-, rfl, rfl⟩
    · exact absurd q c
    · exact hy _ Fr.rf hC
theorem b_end {a x : Int} (hu : u = 5 ∨ u = 46) (hC : Cy u g h) (hp : endP g a x g') (hy : ∀ h', Fr (fun k _ => 282 ≤ k) h h' → Cy u g' h' → Q x h') : qC tFM (d + 1) k_m_end [282, a] h Q := by
  have t := hC.1.2.2.1
  have out : ¬ (0 ≤ a ∧ a ≤ g 1 1) → Q 0 h := by
    intro c
    rcases hp with ⟨q, -⟩ | ⟨-, rfl, rfl⟩
    · exact absurd q c
    · exact hy _ Fr.rf hC
  refine qC_intro (T_m_end_0 _ _ _ _ _ _ ⟨fun c => out (by omega), fun c => ⟨fun c2 => ?_, fun c2 => out (by have := t.1.1; omega)⟩⟩)
  have e1 := t.1
  rcases hp with ⟨q, rfl, rfl⟩ | ⟨q, -⟩
  · refine hy _ (Fr.rf.put (by omega)) (Cy_io hu (Fr.rf.put (by omega)) (Fr.rf.put (by omega)) ?_ ?_ ?_ ?_ hC)
    · unfold cTape
      rw [mmS_slot, if_pos rfl, mmS_slot, if_pos rfl]
      refine ⟨⟨rfl, by omega, by omega⟩, fun i i1 i2 => ?_⟩
      rw [mmS_cell (by omega), mmS_cell (by omega)]
      exact t.2 i i1 i2
    · have := hC.1.2.2.2.1
      unfold cSeed at this ⊢
      rw [mmS_slot, if_neg (by omega), mmS_slot, if_neg (by omega)]
      exact this
    · have := hC.1.2.2.2.2.1
      unfold cShot at this ⊢
      rw [mmS_slot, if_neg (by omega), mmS_slot, if_neg (by omega)]
      refine ⟨this.1, fun k k1 k2 => ?_⟩
      rw [mmS_cell (by omega), mmS_cell (by omega)]
      exact this.2 k k1 k2
    · have := hC.1.2.2.2.2.2.1
      unfold cFault at this ⊢
      rw [mmS_slot, if_neg (by omega), mmS_slot, if_neg (by omega), mmS_cell (by omega), mmS_cell (by omega)]
      exact this
  · exact absurd ⟨by omega, by omega⟩ q
/-- kept, then seen from the reference -/
theorem b_keeps (hu : u = 5 ∨ u = 46) (hC : Cy u g h) (hk : kept g g') (hy : ∀ h', Fr (fun k _ => 282 ≤ k) h h' → Cy u g' h' → keptM h h' → Q 0 h') : qC tFM (d + 1) k_m_keeps [282] h Q := by
  obtain ⟨⟨p1, p7⟩, ⟨p2, p6⟩⟩ := hC.past
  exact q_m_keeps (by omega) (by omega) (fun h1 hm => hy h1 (hm.1.mono (fun k i q => by omega)) (keptCy hu hk hm hC) hm)
theorem b_snow {a x : Int} (hu : u = 5 ∨ u = 46) (hC : Cy u g h) (hp : snowP g a x g') (hy : ∀ h', Fr (fun k _ => 282 ≤ k) h h' → Cy u g' h' → Q x h') : qC tFM (d + 2) k_m_snow [282, a] h Q := by
  refine qC_intro (T_m_snow_0 _ _ _ _ _ _ (q_m_isIn (fun y hyy => ⟨fun c => ?_, fun c => ?_⟩)))
  · have hr := hyy.pos c
    rcases hp with ⟨-, rfl, g1, hk, rfl⟩ | ⟨q, -⟩
    · refine b_keeps hu hC hk (fun h1 f1 hC1 hm => ?_)
      have e1 : h 329 1 = g 86 1 := hC.2.2.1.1
      rw [e1]
      refine hy _ (f1.put (by omega)) (Cy_now hu (Fr.rf.put (by unfold SnC; omega)) (Fr.rf.put (by unfold SnM; omega)) ?_ hC1)
      obtain ⟨a1, a2, a3, a4, a5, a6, a7⟩ := hC1.2
      have n := hC1.1.1.1.2.1
      have gs : ∀ k i, ¬ (k = 86 ∧ i = 1) → mmS g1 86 1 a k i = g1 k i := fun k i q => by
        by_cases q1 : k = 86
        · subst q1; rw [mmS_slot, if_neg (by omega)]
        · rw [mmS_cell q1]
      have hs : ∀ i, i ≠ 1 → mmS h1 329 1 a 329 i = h1 329 i := fun i q => by rw [mmS_slot, if_neg q]
      unfold Nw
      rw [gs u 0 (by omega), gs u 1 (by omega), gs u 3 (by omega), gs 86 0 (by omega), gs 86 2 (by omega), hs 0 (by omega), hs (0 + 29) (by omega)]
      refine ⟨a1, ⟨?_, ?_⟩, a3, fun l l1 l2 => ?_, fun p p1 p2 => ?_, fun q q1 q2 => ?_, fun k k1 k2 => ?_⟩
      · rw [mmS_slot, if_pos (by omega), mmS_slot, if_pos rfl]
      · rw [mmS_slot, if_pos rfl]; exact hr
      · rw [gs _ _ (by omega), hs _ (by omega)]; exact a4 l l1 l2
      · rw [gs _ _ (by omega), gs _ _ (by omega), hs _ (by omega), hs _ (by omega)]; exact a5 p p1 p2
      · rw [gs _ _ (by omega), hs _ (by omega)]; exact a6 q q1 q2
      · rw [gs _ _ (by omega), gs _ _ (by omega), gs _ _ (by omega), hs _ (by omega), hs _ (by omega), hs _ (by omega)]; exact a7 k k1 k2
    · exact absurd hr q
  · rcases hp with ⟨q, -⟩ | ⟨-, rfl, rfl⟩
    · exact absurd q (hyy.neg (Decidable.of_not_not c))
    · exact hy _ Fr.rf hC
theorem Nw_tiles {g2 h1 h2 : mmH} {g1 : mmH} (hu : u = 5 ∨ u = 46) (hg : ∀ k i, k ≠ 87 → g2 k i = g1 k i) (hh : ∀ i, ¬ (2 ≤ i ∧ i < 12) → h2 329 i = h1 329 i) (n1 : g1 u 1 ≤ 10) (ht : ∀ l, 0 ≤ l → l < g1 u 1 → h2 329 (2 + l) = g2 87 l ∧ 0 ≤ g2 87 l ∧ g2 87 l ≤ 30) (hN : Nw 86 329 0 u g1 h1) : Nw 86 329 0 u g2 h2 := by
  obtain ⟨a1, a2, a3, a4, a5, a6, a7⟩ := hN
  simp only [Int.reduceAdd, Int.zero_add] at a1 a2 a3 a4 a5 a6 a7
  unfold Nw
  simp only [Int.reduceAdd, Int.zero_add]
  rw [hg u 0 (by omega), hg u 1 (by omega), hg u 3 (by omega), hg 86 0 (by omega), hg 86 1 (by omega), hg 86 2 (by omega), hh 0 (by omega), hh 1 (by omega), hh 29 (by omega)]
  refine ⟨a1, a2, a3, ht, fun p p1 p2 => ?_, fun q q1 q2 => ?_, fun k k1 k2 => ?_⟩
  · rw [hg 88 _ (by omega), hg 89 _ (by omega), hh _ (by omega), hh _ (by omega)]; exact a5 p p1 p2
  · rw [hg 90 _ (by omega), hh _ (by omega)]; exact a6 q q1 q2
  · rw [hg 92 _ (by omega), hg 93 _ (by omega), hg 94 _ (by omega), hh _ (by omega), hh _ (by omega), hh _ (by omega)]; exact a7 k k1 k2
theorem b_patch {a b x : Int} (hu : u = 5 ∨ u = 46) (hC : Cy u g h) (hp : patchP u g a b x g') (hy : ∀ h', Fr (fun k _ => 282 ≤ k) h h' → Cy u g' h' → Q x h') : qC tFM (d + 3) k_m_patch [282, a, b] h Q := by
  obtain ⟨m0, m1, m2, m3, m4⟩ := hC.many
  have n1 := hC.1.1.1.2.1.2.1
  have out : ¬ patO u g a b → Q 0 h := by
    intro c
    rcases hp with ⟨q, -⟩ | ⟨-, rfl, rfl⟩
    · exact absurd q c
    · exact hy _ Fr.rf hC
  refine qC_intro (T_m_patch_0 _ _ _ _ _ _ _ (q_m_isLot (by omega) (by omega) (fun y hyy => ⟨fun c => out (fun q => hyy.neg c (by rw [m1]; exact q.1)), fun c => q_m_isLot (by omega) (by omega) (fun z hz => ⟨fun c2 => out (fun q => hz.neg c2 (by rw [m1]; exact q.2.1)), fun c2 => ⟨fun c3 => out (fun q => q.2.2.1 c3), fun c3 => ?_⟩⟩)⟩)))
  have ha := hyy.pos c
  have hb := hz.pos c2
  rw [m1] at ha hb
  have ta := hC.2.2.2.2.1 a ha.1 ha.2
  have tb' := hC.2.2.2.2.1 b hb.1 hb.2
  have so := (hC.1.1.2.1 a ha.1 ha.2).2.2.2.2
  simp only [Int.reduceAdd, Int.zero_add, Int.mul_one] at ta tb' so
  refine q_m_tilesOf ha.1 (by omega) ⟨fun c4 => out (fun q => by have := q.2.2.2.2.1; omega), fun c4 => q_m_hasStork ha.1 (by omega) (fun w hw => ⟨fun c5 => out (fun q => q.2.2.2.1 (by have := hw.pos c5; omega)), fun c5 => q_m_tilesOf hb.1 (by omega) ⟨fun c6 => ?_, fun c6 => out (fun q => by have := q.2.2.2.2.2; omega)⟩⟩)⟩
  have hs := hw.neg (Decidable.of_not_not c5)
  rcases hp with ⟨ho, rfl, g1, hk, rfl⟩ | ⟨q, -⟩
  · refine b_keeps hu hC hk (fun h1 f1 hC1 hm => ?_)
    have ta1 := hC1.2.2.2.2.1 a ha.1
    have tb1 := hC1.2.2.2.2.1 b hb.1
    have kf := kept_fr hC.past.2.2 hk
    have ku : g1 u 1 = g u 1 := kf u 1 (by omega)
    have ka : g1 87 a = g 87 a := kf 87 a (by omega)
    have kb : g1 87 b = g 87 b := kf 87 b (by omega)
    rw [ku] at ta1 tb1
    have ta1 := ta1 ha.2
    have tb1 := tb1 hb.2
    simp only [Int.reduceAdd, Int.zero_add] at ta1 tb1
    rw [mAdd_ok (a := 2) (b := a) (by omega) (by omega), mAdd_ok (a := 2) (b := b) (by omega) (by omega)]
    have eb2 : ∀ v, mmS h1 329 (2 + a) v 329 (2 + b) = g 87 b := fun v => by rw [mmS_slot, if_neg (by omega), tb1.1, kb]
    rw [ta1.1, ka, eb2, mSub_ok (by omega) (by omega), mAdd_ok (by omega) (by omega)]
    refine mmD_of (by omega) (mmD_of (by omega) (mmD_of (by omega) (mmD_of (by omega) (hy _ ((f1.put (by omega)).put (by omega)) (Cy_now hu ((Fr.rf.put (by unfold SnC; omega)).put (by unfold SnC; omega)) ((Fr.rf.put (by unfold SnM; omega)).put (by unfold SnM; omega)) ?_ hC1)))))
    refine Nw_tiles hu (fun k i q => by rw [mmS_cell q, mmS_cell q]) (fun i q => by rw [mmS_slot, mmS_slot, if_neg (by omega), if_neg (by omega)]) (by omega) (fun l l1 l2 => ?_) hC1.2
    have tl := hC1.2.2.2.2.1 l l1 l2
    simp only [Int.reduceAdd, Int.zero_add] at tl
    rw [mmS_slot, mmS_slot, mmS_slot, mmS_slot]
    by_cases q1 : l = b
    · rw [if_pos (by omega), if_pos q1]; omega
    · rw [if_neg (by omega), if_neg q1]
      by_cases q2 : l = a
      · rw [if_pos (by omega), if_pos q2]; have := ho.2.2.2.2.1; omega
      · rw [if_neg (by omega), if_neg q2]; exact tl
  · exact absurd ⟨ha, hb, c3, by omega, by omega, by omega⟩ q
theorem b_undo {x : Int} (hu : u = 5 ∨ u = 46) (hC : Cy u g h) (hp : undoP g x g') (hy : ∀ h', Fr (fun k _ => 282 ≤ k) h h' → Cy u g' h' → Q x h') : qC tFM (d + 1) k_m_undo [282] h Q := by
  obtain ⟨⟨p1, p7⟩, ⟨p2, p6⟩⟩ := hC.past
  have n := hC.1.1.1.2.1
  refine qC_intro (T_m_undo_0 _ _ _ _ _ ⟨fun c => ?_, fun c => ?_⟩)
  · rcases hp with ⟨q, rfl, hc⟩ | ⟨q, -⟩
    · have key : ∀ (j : Nat) (i : Int) (h1 : mmH), i + j = 210 → 0 ≤ i → (∀ k l, k ≠ 329 → h1 k l = h k l) → (∀ l, 0 ≤ l → l < i → h1 329 l = h 334 (210 * g 1 6 + l)) → qB tFM d k_m_undo (h 0 0) (h 0 1) Q 2 [(3, 282), (1, i)] [] h1 := by
        intro j
        induction j with
        | zero =>
          intro i h1 hi i0 f1 f2
          refine T_m_undo_2 _ _ _ _ _ _ ⟨fun _ => ?_, fun c => absurd (by omega) c⟩
          have e8 : h1 282 68 = g 1 6 := by rw [f1 282 68 (by omega), p2]
          have e7 : h1 282 67 = g 1 7 := by rw [f1 282 67 (by omega), p1]
          have e7' : ∀ v, mmS h1 282 68 v 282 67 = g 1 7 := fun v => by rw [mmS_slot, if_neg (by omega), e7]
          have hv : mRem (mSub (mAdd (h1 282 68) 20) 1) 20 = (g 1 6 + 19) % 20 := by
            rw [e8, mAdd_ok (by omega) (by omega), mSub_ok (by omega) (by omega), mRem_nn (by omega) (by omega) (by decide) (by decide), show g 1 6 + 20 - 1 = g 1 6 + 19 by omega]
          have hw : mSub (h1 282 67) 1 = g 1 7 - 1 := by rw [e7, mSub_ok (by omega) (by omega)]
          rw [hv, hw]
          generalize hH : mmS (mmS h1 282 68 ((g 1 6 + 19) % 20)) 282 67 (g 1 7 - 1) = h2
          have m : ∀ k l, ¬ (k = 329 ∨ (k = 282 ∧ (l = 67 ∨ l = 68))) → h2 k l = h k l := fun k l q => by
            rw [← hH]
            by_cases q1 : k = 282
            · subst q1
              rw [mmS_slot, if_neg (by omega), mmS_slot, if_neg (by omega)]; exact f1 _ _ (by omega)
            · rw [mmS_cell q1, mmS_cell q1]; exact f1 _ _ (by omega)
          have mk : ∀ k, k ≠ 329 → k ≠ 282 → h2 k = h k := fun k q q1 => funext fun i => m k i (by omega)
          have m8 : h2 282 68 = (g 1 6 + 19) % 20 := by rw [← hH, mmS_slot, if_neg (by omega), mmS_slot, if_pos rfl]
          have m7 : h2 282 67 = g 1 7 - 1 := by rw [← hH, mmS_slot, if_pos rfl]
          have m9 : ∀ l, 0 ≤ l → l < 210 → h2 329 l = h 334 (210 * g 1 6 + l) := fun l l1 l2 => by rw [← hH, mmS_cell (by omega), mmS_cell (by omega)]; exact f2 l l1 (by omega)
          obtain ⟨z0, z1, z2, z3, z4, z5, z6, z7, z8⟩ := hc
          have f : ∀ k i, ¬ ((86 ≤ k ∧ k ≤ 94) ∨ (k = 1 ∧ (i = 6 ∨ i = 7))) → g' k i = g k i := fun k i q => by
            rw [z0 k i (by omega)]
            by_cases q1 : k = 1
            · subst q1
              rw [mmS_slot, if_neg (by omega), mmS_slot, if_neg (by omega)]
            · rw [mmS_cell q1, mmS_cell q1]
          have fk : ∀ k, ¬ (86 ≤ k ∧ k ≤ 94) → k ≠ 1 → g' k = g k := fun k q q2 => funext fun i => f k i (by omega)
          have g16 : g' 1 6 = (g 1 6 + 19) % 20 := by rw [z0 1 6 (by omega), mmS_slot, if_pos rfl]
          have g17 : g' 1 7 = g 1 7 - 1 := by rw [z0 1 7 (by omega), mmS_slot, if_neg (by omega), mmS_slot, if_pos rfl]
          have e0 := f u 0 (by omega)
          have e1 := f u 1 (by omega)
          have e3 := f u 3 (by omega)
          have ro : ∀ k i, k ≠ 1 → mmS (mmS g 1 7 (g 1 7 - 1)) 1 6 ((g 1 6 + 19) % 20) k i = g k i := fun k i q => by rw [mmS_cell q, mmS_cell q]
          obtain ⟨⟨cT, ⟨-, -, p3⟩, cTp, cS, cSh, cF, cO⟩, cN⟩ := hC
          refine hy h2 (fun k l q => m k l (by omega)) ⟨⟨Tn_frT (fun k i k1 k2 k3 => f k i (by omega)) (Tn_frM (fun k i q => m k i (by unfold TnM at q; omega)) cT), ⟨⟨?_, ?_⟩, ⟨?_, ?_⟩, fun i i1 i2 => ?_⟩, ?_, ?_, ?_, ?_, ?_⟩, ?_⟩
          · rw [m7, g17]
          · rw [g17]; omega
          · rw [m8, g16]
          · rw [g16]; omega
          · rw [g17] at i2
            have hp := p3 (i + 1) (by omega) (by omega)
            rw [g16, show ((g 1 6 + 19) % 20 + 19 - i) % 20 = (g 1 6 + 19 - (i + 1)) % 20 by omega, show ((g 1 6 + 19) % 20 + 20 - i) % 20 = (g 1 6 + 20 - (i + 1)) % 20 by omega]
            exact Nw_eq e0 e1 e3 (mk 334 (by omega) (by omega)) (fun k k1 k2 => fk k (by omega) (by omega)) hp
          · unfold cTape
            rw [f 1 1 (by omega), fk 2 (by omega) (by omega), m 282 1 (by omega), mk 283 (by omega) (by omega)]
            exact cTp
          · unfold cSeed
            rw [f 1 8 (by omega), m 282 69 (by omega)]
            exact cS
          · unfold cShot
            rw [f 1 11 (by omega), fk 101 (by omega) (by omega), m 282 71 (by omega), mk 335 (by omega) (by omega)]
            exact cSh
          · unfold cFault
            rw [f 3 0 (by omega), f 3 1 (by omega), m 282 7 (by omega), m 282 8 (by omega)]
            exact cF
          · unfold cOwn
            rw [fk 45 (by omega) (by omega)]
            exact cO
          · have hp := p3 0 (by omega) (by omega)
            rw [show (g 1 6 + 19 - 0) % 20 = (g 1 6 + 19) % 20 by omega, show (g 1 6 + 20 - 0) % 20 = g 1 6 by omega] at hp
            refine Nw_cp (c := 102 + 9 * ((g 1 6 + 19) % 20)) (m := 334) (o := 210 * g 1 6) n.1.2 n.2.1.2 n.2.2.1.2 e0 e1 e3 (fun i i1 i2 => ?_) (fun i i1 i2 => ?_) (fun i i1 i2 => ?_) (fun i i1 i2 => ?_) (fun i i1 i2 => ?_) (fun i i1 i2 => ?_) (fun i i1 i2 => ?_) (fun i i1 i2 => ?_) (fun j j1 j2 => ?_) hp
            · rw [z1 i i1 i2, ro _ _ (by omega)]
            · rw [z2 i i1 i2, ro _ _ (by omega)]
            · rw [z3 i i1 i2, ro _ _ (by omega)]
            · rw [z4 i i1 i2, ro _ _ (by omega)]
            · rw [z5 i i1 i2, ro _ _ (by omega)]
            · rw [z6 i i1 i2, ro _ _ (by omega)]
            · rw [z7 i i1 i2, ro _ _ (by omega)]
            · rw [z8 i i1 i2, ro _ _ (by omega)]
            · rw [Int.zero_add]; exact m9 j j1 j2
        | succ j ih =>
          intro i h1 hi i0 f1 f2
          have e8 : h1 282 68 = g 1 6 := by rw [f1 282 68 (by omega), p2]
          refine T_m_undo_2 _ _ _ _ _ _ ⟨fun c => absurd c (by omega), fun _ => ?_⟩
          rw [e8, mMul_ok (by omega) (by omega), mAdd_ok (a := i) (by omega) (by omega), mAdd_ok (by omega) (by omega)]
          refine mmD_of (by omega) (mmD_of (by omega) (ih (i + 1) _ (by omega) (by omega) (fun k l q => by rw [mmS_cell q]; exact f1 k l q) (fun l l1 l2 => ?_)))
          rw [mmS_slot, f1 334 _ (by omega)]
          by_cases q : l = i
          · rw [if_pos q, q]
          · rw [if_neg q]; exact f2 l l1 (by omega)
      exact key 210 0 h (by omega) (by omega) (fun _ _ _ => rfl) (fun l l1 l2 => absurd l2 (by omega))
    · exact absurd (by omega) q
  · rcases hp with ⟨q, -⟩ | ⟨-, rfl, rfl⟩
    · exact absurd (by omega) c
    · exact hy _ Fr.rf hC
end SB
