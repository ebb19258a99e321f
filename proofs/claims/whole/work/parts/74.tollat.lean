/-! ===== mm: tolls on both sides ===== -/
section TF
variable {u : Int} {h h2 : mmH}
theorem cellS (hF : Fr (Sct u) h h2) {k : Int} (h1 : k ≠ u + 39) (h3 : k ≠ u + 33) : h2 k = h k := funext fun i => hF k i (by unfold Sct; omega)
theorem tollE_fr (hF : Fr (Sct u) h h2) (e : Int → Int) (own : Int) : tollE u h2 e own = tollE u h e own := by
  have e34 := cellS hF (k := u + 34) (by omega) (by omega)
  have e35 := cellS hF (k := u + 35) (by omega) (by omega)
  have e36 := cellS hF (k := u + 36) (by omega) (by omega)
  have e37 := cellS hF (k := u + 37) (by omega) (by omega)
  have e38 := cellS hF (k := u + 38) (by omega) (by omega)
  have e33 : h2 (u + 33) 0 = h (u + 33) 0 := hF _ _ (by unfold Sct; omega)
  have f1 : tstV u h2 e = tstV u h e := by funext k; unfold tstV; rw [e38, e37, e36]
  have f2 : smV u h2 e = smV u h e := by funext k; unfold smV; rw [e38, e35, e36]
  unfold tollE
  rw [f1, f2, e33, e34, e35, e36]
theorem cLaw_fr {m0 : mmH} (hF : Fr (Sct u) h h2) (hL : cLaw u 1 h m0) : cLaw u 1 h2 m0 := by
  have e34 := cellS hF (k := u + 34) (by omega) (by omega)
  have e35 := cellS hF (k := u + 35) (by omega) (by omega)
  have e36 := cellS hF (k := u + 36) (by omega) (by omega)
  have e37 := cellS hF (k := u + 37) (by omega) (by omega)
  have e38 := cellS hF (k := u + 38) (by omega) (by omega)
  have e33 : h2 (u + 33) 0 = h (u + 33) 0 := hF _ _ (by unfold Sct; omega)
  unfold cLaw
  rw [e33, e34, e35, e36, e37, e38]
  exact hL
theorem envF_ok {wt hl ht tl ng : Int} (a : 1 ≤ wt ∧ wt ≤ 99) (b : 0 ≤ hl ∧ hl ≤ 9) (c : 0 ≤ ht ∧ ht ≤ 20) (e : 0 ≤ tl ∧ tl ≤ 30) (f : 0 ≤ ng ∧ ng ≤ 999) : envOk (envF wt hl ht tl ng) := by
  intro i h1 h2
  unfold envF
  (repeat' split) <;> omega
end TF
section TAA
variable {d : Nat} {h : mmH} {Q : Int → mmH → Prop}
theorem pA_setPerson {a b : Int} (hy : Q 0 (mmS (mmS h 38 8 a) 38 9 b)) : qC tFA (d + 1) k_Laws_setPerson [38, a, b] h Q := qC_intro (TA38_Laws_setPerson_0 _ _ _ _ _ _ _ hy)
theorem pA_setPlace {a b c : Int} (hy : Q 0 (mmS (mmS (mmS h 38 10 a) 38 11 b) 38 12 c)) : qC tFA (d + 1) k_Laws_setPlace [38, a, b, c] h Q := qC_intro (TA38_Laws_setPlace_0 _ _ _ _ _ _ _ _ hy)
theorem pA_tollAt {p l t : Int} {m0 : mmH} (hT : Tn 5 1 h m0) (hN : 0 ≤ h 86 0 ∧ h 86 0 ≤ 999) (p1 : 0 ≤ p) (p2 : p < h 5 3) (l1 : 0 ≤ l) (l2 : l < h 5 1) (t1 : 0 ≤ t) (t2 : t ≤ 30)
    (hy : ∀ h', Fr (Sct 5) h h' → Q (tollC 5 h p l t) h') : qC tFA (d + 4) k_Walk_tollAt [96, 5, 86, p, l, t] h Q := by
  obtain ⟨hn, hl, hp, -, -, hL⟩ := hT
  obtain ⟨-, ⟨n1, n2, n3, n4, n5⟩, -⟩ := hn
  have hlt := hl l l1 l2
  have hpt := hp p p1 p2
  unfold tollC at hy
  simp only [Int.reduceAdd, Int.reduceMul] at hlt hpt hy n5
  refine qC_intro (TA_Walk_tollAt_0 _ _ _ _ _ _ _ _ ⟨fun c => ?_, fun c => ?_⟩)
  · rw [if_neg (by omega)] at hy
    simp (disch := omega) only [mmD_iff, mmG_iff, Bool.and_eq_true, Bool.or_eq_true, Nat.beq_refl, true_and, and_true, Option.getD_none, Option.isNone_none, decide_eq_true_eq, lc_lt0, lc_gt0, lc_le0, lc_ge0, lc_eq0, lc_ne0, ite_true, ite_false, fc_tFA_9, fn_tFA_9, fc_tFB_9, fn_tFB_9, sh_9, wn_9, fc_tFA_50, fn_tFA_50, fc_tFB_50, fn_tFB_50, sh_50, wn_50, fc_tFA_20, fn_tFA_20, fc_tFB_20, fn_tFB_20, sh_20, wn_20, fc_tFA_61, fn_tFA_61, fc_tFB_61, fn_tFB_61, sh_61, wn_61, fc_tFA_27, fn_tFA_27, fc_tFB_27, fn_tFB_27, sh_27, wn_27, fc_tFA_68, fn_tFA_68, fc_tFB_68, fn_tFB_68, sh_68, wn_68, fc_tFA_91, fn_tFA_91, fc_tFB_91, fn_tFB_91, sh_91, wn_91]
    refine ⟨by omega, by omega, by omega, by omega, pA_setPerson ?_⟩
    simp (disch := omega) only [mmS_cell]
    refine ⟨by omega, by omega, pA_setPlace ?_⟩
    simp (disch := omega) only [mmS_cell]
    refine ⟨by omega, by omega, ?_⟩
    have hF : Fr (Sct 5) h (mmS (mmS (mmS (mmS (mmS h 38 8 (h (21 + p) 0)) 38 9 (h (21 + p) 3)) 38 10 (h (10 + l) 1)) 38 11 t) 38 12 (h 86 0)) :=
      ((((Fr.rf.put (Or.inr ⟨rfl, by omega, by omega⟩)).put (Or.inr ⟨rfl, by omega, by omega⟩)).put (Or.inr ⟨rfl, by omega, by omega⟩)).put (Or.inr ⟨rfl, by omega, by omega⟩)).put (Or.inr ⟨rfl, by omega, by omega⟩)
    have e33 := hF 38 0 (by unfold Sct; omega)
    refine pA_due (e := envF (h (21 + p) 0) (h (21 + p) 3) (h (10 + l) 1) t (h 86 0)) (envF_ok hpt.2.1 hpt.2.2.2.2.1 hlt.2.1.2 ⟨t1, t2⟩ hN) (cLaw_fr hF hL) ?_ (by rw [e33]; exact n5.1) (by rw [e33]; exact n5.2) (fun h' f' => ?_)
    · refine ⟨?_, ?_, ?_, ?_, ?_⟩ <;> simp [mmS_slot, envF]
    · rw [tollE_fr hF]
      exact hy h' (hF.tr (f'.mono (fun k i q => Or.inl q)))
  · rw [if_pos (by omega)] at hy
    exact hy h Fr.rf
end TAA
section TAB
variable {d : Nat} {h : mmH} {Q : Int → mmH → Prop}
theorem pB_setPerson {a b : Int} (hy : Q 0 (mmS (mmS h 79 8 a) 79 9 b)) : qC tFB (d + 1) k_Laws_setPerson [79, a, b] h Q := qC_intro (TB79_Laws_setPerson_0 _ _ _ _ _ _ _ hy)
theorem pB_setPlace {a b c : Int} (hy : Q 0 (mmS (mmS (mmS h 79 10 a) 79 11 b) 79 12 c)) : qC tFB (d + 1) k_Laws_setPlace [79, a, b, c] h Q := qC_intro (TB79_Laws_setPlace_0 _ _ _ _ _ _ _ _ hy)
theorem pB_tollAt {p l t : Int} {m0 : mmH} (hT : Tn 46 1 h m0) (hN : 0 ≤ h 86 0 ∧ h 86 0 ≤ 999) (p1 : 0 ≤ p) (p2 : p < h 46 3) (l1 : 0 ≤ l) (l2 : l < h 46 1) (t1 : 0 ≤ t) (t2 : t ≤ 30)
    (hy : ∀ h', Fr (Sct 46) h h' → Q (tollC 46 h p l t) h') : qC tFB (d + 4) k_Walk_tollAt [96, 46, 86, p, l, t] h Q := by
  obtain ⟨hn, hl, hp, -, -, hL⟩ := hT
  obtain ⟨-, ⟨n1, n2, n3, n4, n5⟩, -⟩ := hn
  have hlt := hl l l1 l2
  have hpt := hp p p1 p2
  unfold tollC at hy
  simp only [Int.reduceAdd, Int.reduceMul] at hlt hpt hy n5
  refine qC_intro (TB_Walk_tollAt_0 _ _ _ _ _ _ _ _ ⟨fun c => ?_, fun c => ?_⟩)
  · rw [if_neg (by omega)] at hy
    simp (disch := omega) only [mmD_iff, mmG_iff, Bool.and_eq_true, Bool.or_eq_true, Nat.beq_refl, true_and, and_true, Option.getD_none, Option.isNone_none, decide_eq_true_eq, lc_lt0, lc_gt0, lc_le0, lc_ge0, lc_eq0, lc_ne0, ite_true, ite_false, fc_tFA_9, fn_tFA_9, fc_tFB_9, fn_tFB_9, sh_9, wn_9, fc_tFA_50, fn_tFA_50, fc_tFB_50, fn_tFB_50, sh_50, wn_50, fc_tFA_20, fn_tFA_20, fc_tFB_20, fn_tFB_20, sh_20, wn_20, fc_tFA_61, fn_tFA_61, fc_tFB_61, fn_tFB_61, sh_61, wn_61, fc_tFA_27, fn_tFA_27, fc_tFB_27, fn_tFB_27, sh_27, wn_27, fc_tFA_68, fn_tFA_68, fc_tFB_68, fn_tFB_68, sh_68, wn_68, fc_tFA_91, fn_tFA_91, fc_tFB_91, fn_tFB_91, sh_91, wn_91]
    refine ⟨by omega, by omega, by omega, by omega, pB_setPerson ?_⟩
    simp (disch := omega) only [mmS_cell]
    refine ⟨by omega, by omega, pB_setPlace ?_⟩
    simp (disch := omega) only [mmS_cell]
    refine ⟨by omega, by omega, ?_⟩
    have hF : Fr (Sct 46) h (mmS (mmS (mmS (mmS (mmS h 79 8 (h (62 + p) 0)) 79 9 (h (62 + p) 3)) 79 10 (h (51 + l) 1)) 79 11 t) 79 12 (h 86 0)) :=
      ((((Fr.rf.put (Or.inr ⟨rfl, by omega, by omega⟩)).put (Or.inr ⟨rfl, by omega, by omega⟩)).put (Or.inr ⟨rfl, by omega, by omega⟩)).put (Or.inr ⟨rfl, by omega, by omega⟩)).put (Or.inr ⟨rfl, by omega, by omega⟩)
    have e33 := hF 79 0 (by unfold Sct; omega)
    refine pB_due (e := envF (h (62 + p) 0) (h (62 + p) 3) (h (51 + l) 1) t (h 86 0)) (envF_ok hpt.2.1 hpt.2.2.2.2.1 hlt.2.1.2 ⟨t1, t2⟩ hN) (cLaw_fr hF hL) ?_ (by rw [e33]; exact n5.1) (by rw [e33]; exact n5.2) (fun h' f' => ?_)
    · refine ⟨?_, ?_, ?_, ?_, ?_⟩ <;> simp [mmS_slot, envF]
    · rw [tollE_fr hF]
      exact hy h' (hF.tr (f'.mono (fun k i q => Or.inl q)))
  · rw [if_pos (by omega)] at hy
    exact hy h Fr.rf
end TAB
/-- what the reference's looking at tolls writes -/
def Smt (k i : Int) : Prop := Spm k i ∨ k = 328
section TM
variable {d : Nat} {g h : mmH} {Q : Int → mmH → Prop}
theorem l_m_tollOf {u p l t : Int} {e : Int → Int} (hu : u = 5 ∨ u = 46) (he : envOk e) (hL : cLaw u 1 g h) (hcn : h 313 9 = g (u + 33) 0) (h0 : 0 ≤ g (u + 33) 0) (h8 : g (u + 33) 0 ≤ 8) (l1 : 0 ≤ l) (l2 : l < 10) (ho : h 315 (50 + 5 * l) = g (u + 5 + l) 0)
    (hy : ∀ h', Fr Smt h h' → Q (tollE u g e (g (u + 5 + l) 0)) h') :
    ∀ (n : Nat) (k first : Int) (h' : mmH) (w6 w7 : mmV), k + n = g (u + 33) 0 → 0 ≤ k → (first = -1 ∨ 0 ≤ first) → Fr Smt h h' → envM h' e →
      dueR (fun k => decide (g (u + 34) k = g (u + 5 + l) 0)) (fun k => decide (g (u + 35) k = g (u + 36) k)) (tstV u g e) n k first = dueR (fun k => decide (g (u + 34) k = g (u + 5 + l) 0)) (fun k => decide (g (u + 35) k = g (u + 36) k)) (tstV u g e) (g (u + 33) 0).toNat 0 (-1) →
      qB tFM (d + 3) k_m_tollOf (h 0 0) (h 0 1) Q 2 [(3, 282), (1, p), (1, l), (1, t), (1, if first = -1 then -1 else c999 (smV u g e first)), (1, 8 + k), w6, w7, (0, 0)] [] h'
  | 0, k, first, h', w6, w7, hk, hk0, hf, hF, hE, hr => by
    unfold tollE at hy
    rw [← hr] at hy
    unfold dueR dueV at hy
    refine T_m_tollOf_2 _ _ _ _ _ _ _ _ _ _ _ _ ⟨fun _ => ?_, fun c => absurd (by rw [hF 313 9 (by unfold Smt Spm; omega), mAdd_ok (by omega) (by omega)]; omega) c⟩
    have hq := hy h' hF
    rw [if_neg (by omega)] at hq
    by_cases c : first = -1
    · rw [if_pos c] at hq ⊢
      exact ⟨fun q => absurd rfl q, fun _ => hq⟩
    · rw [if_neg c] at hq ⊢
      have := c999_ok (smV u g e first)
      exact ⟨fun _ => hq, fun q => absurd (Decidable.of_not_not q) (by omega)⟩
  | n + 1, k, first, h', w6, w7, hk, hk0, hf, hF, hE, hr => by
    obtain ⟨m1, m2, m3, m4, m5, m6, ⟨b1, b2, b3, b4⟩, hct, hcs, hcd⟩ := hL k hk0 (by omega)
    simp only [Int.mul_one] at m1 m2 m3 m4 m5 m6 hcd
    rw [dueR_succ] at hr
    have hS : ∀ k' i', (k' = 313 ∨ k' = 315 ∨ (320 ≤ k' ∧ k' ≤ 326)) → h' k' i' = h k' i' := fun k' i' q => hF k' i' (by unfold Smt Spm; omega)
    have skip1 : ∀ (h2 : mmH) (w w' : mmV), Fr Smt h h2 → envM h2 e → ¬ (g (u + 34) k = g (u + 5 + l) 0 ∧ (g (u + 35) k = g (u + 36) k ∨ first = -1) ∧ tstV u g e k ≠ 0) → qB tFM (d + 3) k_m_tollOf (h 0 0) (h 0 1) Q 2 [(3, 282), (1, p), (1, l), (1, t), (1, if first = -1 then -1 else c999 (smV u g e first)), (1, 8 + k + 1), w, w', (0, 0)] [] h2 := by
      intro h2 w w' f2 e2 hn
      rw [if_neg (by simpa using hn)] at hr
      have := l_m_tollOf (p := p) (t := t) hu he hL hcn h0 h8 l1 l2 ho hy n (k + 1) first h2 w w' (by omega) (by omega) hf f2 e2 hr
      rw [show 8 + (k + 1) = 8 + k + 1 by omega] at this
      exact this
    have hts := tst01 he hct
    have blk5 : ∀ s0 : Int, YN s0 (g (u + 35) k = g (u + 36) k) → g (u + 34) k = g (u + 5 + l) 0 → (g (u + 35) k = g (u + 36) k ∨ first = -1) → ∀ w, qB tFM (d + 3) k_m_tollOf (h 0 0) (h 0 1) Q 5 [(3, 282), (1, p), (1, l), (1, t), (1, if first = -1 then -1 else c999 (smV u g e first)), (1, 8 + k), (1, s0), w, (0, 0)] [] h' := by
      intro s0 hs hown hb w
      refine T_m_tollOf_5 _ _ _ _ _ _ _ _ _ _ _ _ (mmD_of (by omega) (mmD_of (by omega) ?_))
      rw [hS 325 _ (by omega), hS 326 _ (by omega), m5, m6, mAdd_ok (a := 8 + k) (by omega) (by omega)]
      refine q_m_told (by omega) b3 b4 he hE (tk := g (u + 38)) (fun j j1 j2 => by rw [hS 322 _ (by omega)]; exact hcd j (by omega) j2) hct (fun h2 f2 => ?_)
      have F2 : Fr Smt h h2 := hF.tr (f2.mono (fun _ _ q => Or.inl q))
      have E2 : envM h2 e := fun i i1 i2 => by rw [f2 328 i (by unfold Spm; omega)]; exact hE i i1 i2
      show (mLcmp (tstV u g e k) 1 = 0 → _) ∧ (¬ mLcmp (tstV u g e k) 1 = 0 → _)
      rw [lc_eq0]
      refine ⟨fun c => ⟨fun c2 => mmD_of (by omega) (mmD_of (by omega) ?_), fun c2 => ?_⟩, fun c => skip1 h2 _ _ F2 E2 (fun q => by omega)⟩
      · have hnb := hs.neg c2
        have hf1 : first = -1 := hb.resolve_left hnb
        rw [F2 324 _ (by unfold Smt Spm; omega), F2 325 _ (by unfold Smt Spm; omega), m4, m5]
        refine q_m_told b1 b2 (by omega) he E2 (tk := g (u + 38)) (fun j j1 j2 => by rw [F2 322 _ (by unfold Smt Spm; omega)]; exact hcd j j1 (by omega)) (hcs.resolve_left hnb) (fun h3 f3 => ?_)
        have F3 : Fr Smt h h3 := F2.tr (f3.mono (fun _ _ q => Or.inl q))
        have E3 : envM h3 e := fun i i1 i2 => by rw [f3 328 i (by unfold Spm; omega)]; exact E2 i i1 i2
        have hvb : -1000000 ≤ smV u g e k ∧ smV u g e k ≤ 1000000 := by
          have := evR_ok he _ _ _ _ [] (hcs.resolve_left hnb) trivial
          obtain ⟨v, hv, hkk⟩ := sk1 this
          unfold smV
          rw [hv]
          exact hkk
        rw [if_pos (by simpa using ⟨hown, hb, by omega⟩), if_neg (by simpa using hnb)] at hr
        have nxt : ∀ w w', qB tFM (d + 3) k_m_tollOf (h 0 0) (h 0 1) Q 2 [(3, 282), (1, p), (1, l), (1, t), (1, c999 (smV u g e k)), (1, 8 + k + 1), w, w', (0, 0)] [] h3 := by
          intro w w'
          have := l_m_tollOf (p := p) (t := t) hu he hL hcn h0 h8 l1 l2 ho hy n (k + 1) k h3 w w' (by omega) (by omega) (Or.inr hk0) F3 E3 hr
          rw [if_neg (by omega), show 8 + (k + 1) = 8 + k + 1 by omega] at this
          exact this
        rw [show (evR e (g (u + 38)) (g (u + 36) k - g (u + 35) k).toNat (g (u + 35) k) []).headD 0 = smV u g e k from rfl]
        rw [lc_ge0, lc_le0]
        refine ⟨fun c3 => ⟨fun c4 => ?_, fun c4 => ?_⟩, fun c3 => ?_⟩
        · have := nxt (1, s0) (2, smV u g e k)
          rw [show c999 (smV u g e k) = smV u g e k by unfold c999; rw [if_neg (by omega), if_neg (by omega)]] at this
          rw [mL2i_ok (by omega) (by omega)]
          exact this
        · have := nxt (1, s0) (2, smV u g e k)
          rw [show c999 (smV u g e k) = 999 by unfold c999; rw [if_neg (by omega), if_pos (by omega)]] at this
          exact this
        · have := nxt (1, s0) (2, smV u g e k)
          rw [show c999 (smV u g e k) = 0 by unfold c999; rw [if_pos (by omega)]] at this
          exact this
      · have hb2 := hs.pos c2
        rw [if_pos (by simpa using ⟨hown, hb, by omega⟩), if_pos (by simpa using hb2)] at hr
        have := hy h2 F2
        unfold tollE at this
        rw [← hr] at this
        exact this
    have blk4 : ∀ s0 : Int, YN s0 (g (u + 35) k = g (u + 36) k) → ∀ w w', qB tFM (d + 3) k_m_tollOf (h 0 0) (h 0 1) Q 4 [(3, 282), (1, p), (1, l), (1, t), (1, if first = -1 then -1 else c999 (smV u g e first)), (1, 8 + k), w, w', (0, 0)] [(1, s0)] h' := by
      intro s0 hs w w'
      refine T_m_tollOf_4 _ _ _ _ _ _ _ _ _ _ _ _ _ (mmD_of (by omega) (q_m_ownerOf l1 l2 ?_))
      rw [hS 320 _ (by omega), hS 315 _ (by omega), m1, ho, mAdd_ok (a := 8 + k) (by omega) (by omega)]
      refine ⟨fun c => skip1 h' _ _ hF hE (fun q => c q.1), fun c => ?_⟩
      have hown := Decidable.of_not_not c
      refine ⟨fun c2 => blk5 s0 hs hown (Or.inl (hs.pos c2)) _, fun c2 => ⟨fun c3 => skip1 h' _ _ hF hE (fun q => ?_), fun c3 => blk5 s0 hs hown (Or.inr ?_) _⟩⟩
      · have hnb := hs.neg (Decidable.of_not_not c2)
        have hf1 := q.2.1.resolve_left hnb
        rw [if_pos hf1] at c3
        exact c3 rfl
      · have c4 := Decidable.of_not_not c3
        by_cases q : first = -1
        · exact q
        · rw [if_neg q] at c4
          have := c999_ok (smV u g e first)
          omega
    refine T_m_tollOf_2 _ _ _ _ _ _ _ _ _ _ _ _ ⟨fun c => absurd c (by rw [hS 313 9 (by omega), mAdd_ok (by omega) (by omega)]; omega), fun _ => mmD_of (by omega) ?_⟩
    rw [hS 321 _ (by omega)]
    exact ⟨fun c => blk4 0 (YN.no (fun q => c (m3.mpr q))) _ _, fun c => blk4 1 (YN.yes (m3.mp (Decidable.of_not_not c))) _ _⟩
theorem q_m_tollOf {u p l t : Int} (hu : u = 5 ∨ u = 46) (hT : Tn u 1 g h) (hN : (h 329 0 = g 86 0 ∧ 0 ≤ g 86 0 ∧ g 86 0 ≤ 999) ∧ h 329 1 = g 86 1) (p1 : 0 ≤ p) (p2 : p < g u 3) (l1 : 0 ≤ l) (l2 : l < g u 1) (t1 : 0 ≤ t) (t2 : t ≤ 30)
    (hy : ∀ h', Fr Smt h h' → Q (tollC u g p l t) h') : qC tFM (d + 4) k_m_tollOf [282, p, l, t] h Q := by
  obtain ⟨hn, hl, hp, -, -, hL⟩ := hT
  obtain ⟨⟨-, -, -, -, hcn⟩, ⟨n1, n2, n3, n4, n5⟩, -⟩ := hn
  simp only [Int.mul_one] at hcn
  have hlt := hl l l1 l2
  have hpt := hp p p1 p2
  have hp0 := hpt.1 0 (by omega) (by omega)
  have hp3 := hpt.1 3 (by omega) (by omega)
  simp only [Int.mul_one] at hlt hp0 hp3
  unfold tollC at hy
  refine qC_intro (T_m_tollOf_0 _ _ _ _ _ _ _ _ ⟨fun c => ?_, fun c => ?_⟩)
  · rw [if_neg (by omega)] at hy
    refine q_m_personOf p1 (by omega) (by omega) (by omega) (q_m_personOf p1 (by omega) (by omega) (by omega) (q_m_heightOf l1 (by omega) ?_))
    simp (disch := omega) only [mmS_cell]
    have hF : Fr Smt h (mmS (mmS (mmS (mmS (mmS h 328 0 (h 317 (36 + 6 * p + 0))) 328 1 (h 317 (36 + 6 * p + 3))) 328 2 (h 315 (50 + 5 * l + 1))) 328 3 t) 328 4 (h 329 0)) :=
      ((((Fr.rf.put (Or.inr rfl)).put (Or.inr rfl)).put (Or.inr rfl)).put (Or.inr rfl)).put (Or.inr rfl)
    have := l_m_tollOf (d := d) (p := p) (t := t) (e := envF (g (u + 16 + p) 0) (g (u + 16 + p) 3) (g (u + 5 + l) 1) t (g 86 0)) hu (envF_ok hpt.2.1 hpt.2.2.2.2.1 hlt.2.1.2 ⟨t1, t2⟩ hN.1.2) hL hcn n5.1 n5.2 l1 (by omega) hlt.1.1 hy (g (u + 33) 0).toNat 0 (-1) _ (0, 0) (0, 0) (by omega) (Int.le_refl _) (Or.inl rfl) hF ?_ rfl
    · exact this
    · intro i i1 i2
      rw [hp0, hp3, hlt.2.1.1, hN.1.1]
      have : i = 0 ∨ i = 1 ∨ i = 2 ∨ i = 3 ∨ i = 4 := by omega
      rcases this with rfl | rfl | rfl | rfl | rfl <;> simp [mmS_slot, envF]
  · rw [if_pos (by omega)] at hy
    exact hy h Fr.rf
end TM
