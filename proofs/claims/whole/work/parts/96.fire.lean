/-! ===== mm: fire ===== -/
noncomputable def fireB (u : Int) (g : mmH) (l n : Int) : Int := if (0 ≤ l ∧ l < g u 1) ∧ (0 ≤ n ∧ n ≤ 20) ∧ 0 < g 87 l then burnV u g l n else -1
noncomputable def goneV (g : mmH) (B m : Int) : Int := upTo (fun l s => bif tb B l then mAdd s (g 87 l) else s) 0 m 0
def fireP (u : Int) (g : mmH) (l n x : Int) (g' : mmH) : Prop := (fireB u g l n = -1 ∧ x = -1 ∧ g' = g) ∨ (fireB u g l n ≠ -1 ∧ ∃ g1, kept g g1 ∧ x = goneV g (fireB u g l n) 10 ∧ Fr (fun k _ => k = 87) g1 g' ∧ ∀ b, 0 ≤ b → b < 10 → g' 87 b = if tb (fireB u g l n) b = true then 0 else g 87 b)
theorem burn_lt {u l n b : Int} {g : mmH} (n1 : 0 ≤ g u 1 ∧ g u 1 ≤ 10) (hl : 0 ≤ l ∧ l < g u 1) (hn : 0 ≤ n) (b1 : 0 ≤ b) (b2 : b < 32) (hb : tb (burnV u g l n) b = true) : b < g u 1 := by
  have : ∀ b, 0 ≤ b → b < 32 → tb (burnV u g l n) b = true → b < g u 1 := by
    unfold burnV
    refine upTo_inv (f := fun _ s => fireF u g s) (fun _ s => ∀ b, 0 ≤ b → b < 32 → tb s b = true → b < g u 1) hn (fun b b1 b2 h => ?_) (fun i s _ _ hs b b1 b2 h => ?_)
    · rw [tb_shl1 hl.1 (by omega) b1 b2, decide_eq_true_eq] at h
      omega
    · unfold fireF at h
      rcases (or2_tb n1.1 n1.2 b1 b2).mp h with q | ⟨q, -⟩
      · exact hs b b1 b2 q
      · exact q
  exact this b b1 b2 hb
theorem fireB_lt {u l n b : Int} {g : mmH} (n1 : 0 ≤ g u 1 ∧ g u 1 ≤ 10) (hB : fireB u g l n ≠ -1) (b1 : 0 ≤ b) (b2 : b < 32) (hb : tb (fireB u g l n) b = true) : b < g u 1 := by
  unfold fireB at hB hb
  split at hb
  · next q => exact burn_lt n1 q.1 q.2.1.1 b1 b2 hb
  · next q => rw [if_neg q] at hB; exact absurd rfl hB
theorem goneV_all {u l n : Int} {g : mmH} (n1 : 0 ≤ g u 1 ∧ g u 1 ≤ 10) (hB : fireB u g l n ≠ -1) : goneV g (fireB u g l n) 10 = goneV g (fireB u g l n) (g u 1) :=
  upTo_skip n1.1 n1.2 (fun i a i1 i2 => by
    cases e : tb (fireB u g l n) i with
    | false => rfl
    | true => exact absurd (fireB_lt n1 hB (by omega) (by omega) e) (by omega))
section FIA
variable {d : Nat} {h m0 : mmH} {Q : Int → mmH → Prop}
theorem pA_takeAllOf {B : Int} (hy : ∀ h', Fr (fun k _ => k = 87) h h' → (∀ b, 0 ≤ b → b < 10 → h' 87 b = if tb B b = true then 0 else h 87 b) → Q 0 h') : qC tFA (d + 1) k_Roofs_takeAllOf [86, B] h Q := by
  refine qC_intro (TA_Roofs_takeAllOf_0 _ _ _ _ _ _ ?_)
  have key : ∀ (j : Nat) (i : Int) (h1 : mmH), i + j = 10 → 0 ≤ i → Fr (fun k _ => k = 87) h h1 → (∀ b, 0 ≤ b → b < 10 → h1 87 b = if b < i ∧ tb B b = true then 0 else h 87 b) → qB tFA d k_Roofs_takeAllOf (h 0 0) (h 0 1) Q 1 [(3, 86), (1, B), (1, i)] [] h1 := by
    intro j
    induction j with
    | zero =>
      intro i h1 hi i0 f1 f2
      refine TA_Roofs_takeAllOf_1 _ _ _ _ _ _ _ ⟨fun _ => hy h1 f1 (fun b b1 b2 => ?_), fun c => absurd (by omega) c⟩
      rw [f2 b b1 b2]
      by_cases q : tb B b = true
      · rw [if_pos q, if_pos ⟨by omega, q⟩]
      · rw [if_neg q, if_neg (fun z => q z.2)]
    | succ j ih =>
      intro i h1 hi i0 f1 f2
      refine TA_Roofs_takeAllOf_1 _ _ _ _ _ _ _ ⟨fun c => absurd c (by omega), fun _ => ?_⟩
      rw [mAdd_ok (a := i) (by omega) (by omega), Ne, bit_is i0 (by omega)]
      refine ⟨fun c => ih (i + 1) h1 (by omega) (by omega) f1 (fun b b1 b2 => ?_), fun c => mmD_of (by omega) (ih (i + 1) _ (by omega) (by omega) (f1.put rfl) (fun b b1 b2 => ?_))⟩
      · rw [f2 b b1 b2]
        by_cases q : tb B b = true
        · have : b ≠ i := fun z => c (by rw [← z]; exact q)
          by_cases q2 : b < i
          · rw [if_pos ⟨q2, q⟩, if_pos ⟨by omega, q⟩]
          · rw [if_neg (fun z => q2 z.1), if_neg (by omega)]
        · rw [if_neg (fun z => q z.2), if_neg (fun z => q z.2)]
      · have c := Decidable.of_not_not c
        rw [mmS_slot, f2 b b1 b2]
        by_cases q : b = i
        · rw [if_pos q, if_pos ⟨by omega, by rw [q]; exact c⟩]
        · rw [if_neg q]
          by_cases q2 : b < i ∧ tb B b = true
          · rw [if_pos q2, if_pos ⟨by omega, q2.2⟩]
          · rw [if_neg q2, if_neg (fun z => q2 ⟨by omega, z.2⟩)]
  exact key 10 0 h (by omega) (by omega) Fr.rf (fun b b1 b2 => by rw [if_neg (by omega)])
theorem aA_fire {l n : Int} (hC : Cp 5 h m0) (hy : ∀ x h', fireP 5 h l n x h' → Q x h') : qC tFA (d + 3) k_c_fire [1, l, n] h Q := by
  obtain ⟨⟨-, p7⟩, ⟨-, p6⟩⟩ := hC.y.past
  refine qC_intro (TA_c_fire_0 _ _ _ _ _ _ _ (aA_burns hC (fun x hx => ⟨fun c => pA_keepForUndo p6 p7 (fun h1 hk => pA_tilesOf (pA_takeAllOf (fun h2 f2 e2 => hy _ h2 (Or.inr ⟨?_, h1, hk, ?_, f2, fun b b1 b2 => ?_⟩)))), fun c => hy _ h (Or.inl ⟨?_, rfl, rfl⟩)⟩)))
  · have : x = fireB 5 h l n := hx
    rw [← this]; exact c
  · have e : x = fireB 5 h l n := hx
    rw [← e]
    unfold goneV
    refine upTo_congr (fun i a i1 i2 => ?_)
    have : h1 87 i = h 87 i := kept_fr p6 hk 87 i (by omega)
    rw [this]
  · have e : x = fireB 5 h l n := hx
    have : h1 87 b = h 87 b := kept_fr p6 hk 87 b (by omega)
    rw [e2 b b1 b2, ← e, this]
  · have e : x = fireB 5 h l n := hx
    rw [← e]; exact Decidable.of_not_not c
end FIA
section FIB
variable {d : Nat} {h m0 : mmH} {Q : Int → mmH → Prop}
theorem pB_takeAllOf {B : Int} (hy : ∀ h', Fr (fun k _ => k = 87) h h' → (∀ b, 0 ≤ b → b < 10 → h' 87 b = if tb B b = true then 0 else h 87 b) → Q 0 h') : qC tFB (d + 1) k_Roofs_takeAllOf [86, B] h Q := by
  refine qC_intro (TB_Roofs_takeAllOf_0 _ _ _ _ _ _ ?_)
  have key : ∀ (j : Nat) (i : Int) (h1 : mmH), i + j = 10 → 0 ≤ i → Fr (fun k _ => k = 87) h h1 → (∀ b, 0 ≤ b → b < 10 → h1 87 b = if b < i ∧ tb B b = true then 0 else h 87 b) → qB tFB d k_Roofs_takeAllOf (h 0 0) (h 0 1) Q 1 [(3, 86), (1, B), (1, i)] [] h1 := by
    intro j
    induction j with
    | zero =>
      intro i h1 hi i0 f1 f2
      refine TB_Roofs_takeAllOf_1 _ _ _ _ _ _ _ ⟨fun _ => hy h1 f1 (fun b b1 b2 => ?_), fun c => absurd (by omega) c⟩
      rw [f2 b b1 b2]
      by_cases q : tb B b = true
      · rw [if_pos q, if_pos ⟨by omega, q⟩]
      · rw [if_neg q, if_neg (fun z => q z.2)]
    | succ j ih =>
      intro i h1 hi i0 f1 f2
      refine TB_Roofs_takeAllOf_1 _ _ _ _ _ _ _ ⟨fun c => absurd c (by omega), fun _ => ?_⟩
      rw [mAdd_ok (a := i) (by omega) (by omega), Ne, bit_is i0 (by omega)]
      refine ⟨fun c => ih (i + 1) h1 (by omega) (by omega) f1 (fun b b1 b2 => ?_), fun c => mmD_of (by omega) (ih (i + 1) _ (by omega) (by omega) (f1.put rfl) (fun b b1 b2 => ?_))⟩
      · rw [f2 b b1 b2]
        by_cases q : tb B b = true
        · have : b ≠ i := fun z => c (by rw [← z]; exact q)
          by_cases q2 : b < i
          · rw [if_pos ⟨q2, q⟩, if_pos ⟨by omega, q⟩]
          · rw [if_neg (fun z => q2 z.1), if_neg (by omega)]
        · rw [if_neg (fun z => q z.2), if_neg (fun z => q z.2)]
      · have c := Decidable.of_not_not c
        rw [mmS_slot, f2 b b1 b2]
        by_cases q : b = i
        · rw [if_pos q, if_pos ⟨by omega, by rw [q]; exact c⟩]
        · rw [if_neg q]
          by_cases q2 : b < i ∧ tb B b = true
          · rw [if_pos q2, if_pos ⟨by omega, q2.2⟩]
          · rw [if_neg q2, if_neg (fun z => q2 ⟨by omega, z.2⟩)]
  exact key 10 0 h (by omega) (by omega) Fr.rf (fun b b1 b2 => by rw [if_neg (by omega)])
theorem aB_fire {l n : Int} (hC : Cp 46 h m0) (hy : ∀ x h', fireP 46 h l n x h' → Q x h') : qC tFB (d + 3) k_c_fire [1, l, n] h Q := by
  obtain ⟨⟨-, p7⟩, ⟨-, p6⟩⟩ := hC.y.past
  refine qC_intro (TB_c_fire_0 _ _ _ _ _ _ _ (aB_burns hC (fun x hx => ⟨fun c => pB_keepForUndo p6 p7 (fun h1 hk => pB_tilesOf (pB_takeAllOf (fun h2 f2 e2 => hy _ h2 (Or.inr ⟨?_, h1, hk, ?_, f2, fun b b1 b2 => ?_⟩)))), fun c => hy _ h (Or.inl ⟨?_, rfl, rfl⟩)⟩)))
  · have : x = fireB 46 h l n := hx
    rw [← this]; exact c
  · have e : x = fireB 46 h l n := hx
    rw [← e]
    unfold goneV
    refine upTo_congr (fun i a i1 i2 => ?_)
    have : h1 87 i = h 87 i := kept_fr p6 hk 87 i (by omega)
    rw [this]
  · have e : x = fireB 46 h l n := hx
    have : h1 87 b = h 87 b := kept_fr p6 hk 87 b (by omega)
    rw [e2 b b1 b2, ← e, this]
  · have e : x = fireB 46 h l n := hx
    rw [← e]; exact Decidable.of_not_not c
end FIB
section FM
variable {d : Nat} {u : Int} {g g' h : mmH} {Q : Int → mmH → Prop}
theorem b_fire {l n x : Int} (hC : Cp u g h) (hp : fireP u g l n x g') (hy : ∀ h', Fr (fun k _ => 282 ≤ k) h h' → Cy u g' h' → Q x h') : qC tFM (d + 5) k_m_fire [282, l, n] h Q := by
  have hu := hC.uu
  have n1 := hC.T.1.2.1.2.1
  refine qC_intro (T_m_fire_0 _ _ _ _ _ _ _ (b_burns hC (fun y hyy => ?_)))
  have e : y = fireB u g l n := hyy
  subst e
  refine ⟨fun c => ?_, fun c => ?_⟩
  · rcases hp with ⟨q, -⟩ | ⟨-, g1, hk, rfl, f2, e2⟩
    · exact absurd q c
    · refine b_keeps hu hC.y hk (fun h1 f1 hC1 hm => ?_)
      have kf := kept_fr hC.y.past.2.2 hk
      have ku : g1 u 1 = g u 1 := kf u 1 (by omega)
      have kt : ∀ b, g1 87 b = g 87 b := fun b => kf 87 b (by omega)
      have tl : ∀ b, 0 ≤ b → b < g u 1 → h1 329 (2 + b) = g 87 b ∧ 0 ≤ g 87 b ∧ g 87 b ≤ 30 := fun b b1 b2 => by
        have := hC1.2.2.2.2.1 b b1 (by omega)
        simp only [Int.reduceAdd, Int.zero_add] at this
        rw [kt] at this
        exact this
      have mm := hC1.many.2.1
      have key : ∀ (j : Nat) (i : Int) (h2 : mmH), i + j = g u 1 → 0 ≤ i → Fr (fun k i => k = 329 ∧ 2 ≤ i ∧ i < 12) h1 h2 → (∀ b, 0 ≤ b → b < g u 1 → h2 329 (2 + b) = if b < i ∧ tb (fireB u g l n) b = true then 0 else g 87 b) → qB tFM (d + 4) k_m_fire (h 0 0) (h 0 1) Q 2 [(3, 282), (1, l), (1, n), (1, fireB u g l n), (1, goneV g (fireB u g l n) i), (1, i)] [] h2 := by
        intro j
        induction j with
        | zero =>
          intro i h2 hi i0 f3 e3
          refine T_m_fire_2 _ _ _ _ _ _ _ _ _ _ (q_m_lotMany ⟨fun _ => ?_, fun c => absurd (by rw [f3 313 6 (by omega), mm]; omega) c⟩)
          rw [goneV_all n1 c, show g u 1 = i by omega] at hy
          refine hy h2 (f1.tr (f3.mono (fun k i q => by omega))) (Cy_now hu (f2.mono (fun k i q => by unfold SnC; omega)) (f3.mono (fun k i q => Or.inl q.1)) ?_ hC1)
          refine Nw_tiles hu (fun k i q => f2 k i q) (fun i q => f3 329 i (by omega)) (by omega) (fun b b1 b2 => ?_) hC1.2
          rw [ku] at b2
          have := tl b b1 b2
          rw [e3 b b1 b2, e2 b b1 (by omega)]
          by_cases q : tb (fireB u g l n) b = true
          · rw [if_pos q, if_pos ⟨by omega, q⟩]; omega
          · rw [if_neg q, if_neg (fun z => q z.2)]; omega
        | succ j ih =>
          intro i h2 hi i0 f3 e3
          have hg : goneV g (fireB u g l n) (i + 1) = bif tb (fireB u g l n) i then mAdd (goneV g (fireB u g l n) i) (g 87 i) else goneV g (fireB u g l n) i := upTo_last _ _ i0
          refine T_m_fire_2 _ _ _ _ _ _ _ _ _ _ (q_m_lotMany ⟨fun c => absurd c (by rw [f3 313 6 (by omega), mm]; omega), fun _ => ?_⟩)
          rw [mAdd_ok (a := i) (by omega) (by omega), bit_at i0 (by omega)]
          refine ⟨fun c2 => q_m_tilesOf i0 (by omega) ?_, fun c2 => ?_⟩
          · have hb : tb (fireB u g l n) i = true := by
              cases q : tb (fireB u g l n) i with
              | true => rfl
              | false => rw [q] at c2; exact absurd rfl c2
            rw [mAdd_ok (a := 2) (by omega) (by omega)]
            refine mmD_of (by omega) ?_
            rw [e3 i i0 (by omega), if_neg (by omega)]
            have := ih (i + 1) (mmS h2 329 (2 + i) 0) (by omega) (by omega) (f3.put (by omega)) (fun b b1 b2 => ?_)
            · rw [hg, hb] at this
              exact this
            · rw [mmS_slot, e3 b b1 b2]
              by_cases q : b = i
              · rw [if_pos (by omega), if_pos ⟨by omega, by rw [q]; exact hb⟩]
              · rw [if_neg (by omega)]
                by_cases q2 : b < i ∧ tb (fireB u g l n) b = true
                · rw [if_pos q2, if_pos ⟨by omega, q2.2⟩]
                · rw [if_neg q2, if_neg (fun z => q2 ⟨by omega, z.2⟩)]
          · have hb : tb (fireB u g l n) i = false := by
              cases q : tb (fireB u g l n) i with
              | false => rfl
              | true => rw [q] at c2; exact absurd (by decide) c2
            have := ih (i + 1) h2 (by omega) (by omega) f3 (fun b b1 b2 => ?_)
            · rw [hg, hb] at this
              exact this
            · rw [e3 b b1 b2]
              by_cases q : b = i
              · rw [if_neg (by omega), if_neg (by rw [q, hb]; simp)]
              · by_cases q2 : b < i ∧ tb (fireB u g l n) b = true
                · rw [if_pos q2, if_pos ⟨by omega, q2.2⟩]
                · rw [if_neg q2, if_neg (fun z => q2 ⟨by omega, z.2⟩)]
      have e0 : goneV g (fireB u g l n) 0 = 0 := upTo_self _ _ (Int.le_refl _)
      have := key (g u 1).toNat 0 h1 (by omega) (by omega) Fr.rf (fun b b1 b2 => by rw [if_neg (by omega)]; exact (tl b b1 b2).1)
      rw [e0] at this
      exact this
  · rcases hp with ⟨-, rfl, rfl⟩ | ⟨q, -⟩
    · exact hy _ Fr.rf hC.y
    · exact absurd q c
end FM
