/-! ===== mm: the same on the reference's side ===== -/
/-- the reference's pile -/
def Spm (k i : Int) : Prop := k = 327 ∨ (k = 282 ∧ i = 59)
section VM
variable {d : Nat} {h : mmH} {Q : Int → mmH → Prop}
theorem q_m_clip {a : Int} (hy : Q (clp a) h) : qC tFM (d + 1) k_m_clip [a] h Q := by
  unfold clp at hy
  refine qC_intro (T_m_clip_0 _ _ _ _ _ _ ?_)
  rw [lc_le0, lc_ge0]
  refine ⟨fun c1 => ⟨fun c2 => ?_, fun c2 => ?_⟩, fun c1 => ?_⟩
  · rw [if_neg (by omega), if_neg (by omega)] at hy; exact hy
  · rw [if_pos (by omega)] at hy; exact hy
  · rw [if_neg (by omega), if_pos (by omega)] at hy; exact hy
theorem q_m_floor {a b : Int} (ha : -1000000 ≤ a ∧ a ≤ 1000000) (hb : -1000000 ≤ b ∧ b ≤ 1000000) (hy : Q (flr a b) h) : qC tFM (d + 1) k_m_floor [a, b] h Q := by
  have hq := tdiv_le (b := b) ha
  unfold flr at hy
  refine qC_intro (T_m_floor_0 _ _ _ _ _ _ _ ⟨fun c => ?_, fun c => ?_⟩)
  · have hb0 := lc_ne0.mp c
    rw [if_neg hb0] at hy
    rw [nRem_ok ha hb, nDiv_ok ha hb, lc_eq0, lc_ge0]
    refine mmD_of hb0 (mmD_of hb0 ⟨fun c1 => ?_, fun c1 => ?_⟩)
    · rw [if_pos c1] at hy; exact hy
    · rw [if_neg c1] at hy
      refine ⟨fun c2 => T_m_floor_3 _ _ _ _ _ _ _ _ _ ?_, fun c2 => T_m_floor_3 _ _ _ _ _ _ _ _ _ ?_⟩ <;> rw [lc_ge0, nSub_ok (by omega) (by omega)]
      · refine ⟨fun c3 => ⟨fun _ => ?_, fun q => absurd rfl q⟩, fun c3 => ⟨fun q => absurd q (by omega), fun _ => ?_⟩⟩
        · rw [if_neg (by omega)] at hy; exact hy
        · rw [if_pos (by omega)] at hy; exact hy
      · refine ⟨fun c3 => ⟨fun q => absurd q (by omega), fun _ => ?_⟩, fun c3 => ⟨fun _ => ?_, fun q => absurd rfl q⟩⟩
        · rw [if_pos (by omega)] at hy; exact hy
        · rw [if_neg (by omega)] at hy; exact hy
  · rw [if_pos (by have := lc_eq0.mp (Decidable.of_not_not c); exact this)] at hy; exact hy
theorem q_m_puts {x : Int} (h1 : 0 ≤ h 282 59) (h2 : h 282 59 < 1700) (hy : Q 0 (mmS (mmS h 327 (h 282 59) x) 282 59 (h 282 59 + 1))) : qC tFM (d + 1) k_m_puts [282, x] h Q := by
  refine qC_intro (T_m_puts_0 _ _ _ _ _ _ (mmD_of (by omega) ?_))
  rw [mAdd_ok (by omega) (by omega)]
  exact hy
theorem q_m_joins {t a b : Int} {r : List Int} (hj : jnOk t a b) (hr : r.length ≤ 1600) (hp : pr h 327 (b :: a :: r)) (hn : h 282 59 = (r.length : Int) + 2)
    (hy : ∀ h', Fr Spm h h' → pr h' 327 (jn t a b :: r) → h' 282 59 = (r.length : Int) + 1 → Q 0 h') : qC tFM (d + 2) k_m_joins [282, codeOf t] h Q := by
  obtain ⟨ha, hb⟩ := hj.big
  have hm := mul_le12 ha hb
  have hs := hj.sort
  have inv : ∀ k, codeOf t = k → (k = 1 ∧ t = 10043) ∨ (k = 2 ∧ t = 10045) ∨ (k = 3 ∧ t = 10042) ∨ (k = 4 ∧ t = 10047) ∨ (k = 5 ∧ t = 10227) ∨ (k = 6 ∧ t = 10228) ∨ (k = 12 ∧ t = 10060) ∨ (k = 13 ∧ t = 10062) ∨ (k = 14 ∧ t = 10061) ∨ (k = 15 ∧ t = 10224) ∨ (k = 16 ∧ t = 10223) := by
    intro k hk
    rcases hs with rfl | rfl | rfl | rfl | rfl | rfl | rfl | rfl | rfl | rfl | rfl <;> simp [codeOf] at hk <;> omega
  have g1 : h 327 (r.length : Int) = a := hp.2.1
  have g2 : h 327 ((r.length : Int) + 1) = b := by
    have := hp.1
    simp only [List.length_cons] at this
    rw [show (((r.length + 1 : Nat)) : Int) = (r.length : Int) + 1 by omega] at this
    exact this
  have fin : ∀ v, v = jn t a b → qC tFM (d + 1) k_m_puts [282, v] (mmS h 282 59 (r.length : Int)) (fun _ h2 => Q 0 h2) := by
    intro v hv
    have e0 : (mmS h 282 59 (r.length : Int)) 282 59 = (r.length : Int) := mmS_self _ _ _ _
    refine q_m_puts (by rw [e0]; omega) (by rw [e0]; omega) ?_
    rw [e0]
    refine hy _ (((Fr.rf.put (Or.inr ⟨rfl, rfl⟩)).put (Or.inl rfl)).put (Or.inr ⟨rfl, rfl⟩)) ⟨?_, ?_⟩ (mmS_self _ _ _ _)
    · rw [mmS_cell (by omega), mmS_self, hv]
    · refine pr_fr (h := mmS h 327 (r.length : Int) v) (fun i => ?_) (pr_put (Int.le_refl _) hp.2.2)
      rw [mmS_cell (by omega), mmS_slot, mmS_slot, mmS_cell (by omega)]
  refine qC_intro (T_m_joins_0 _ _ _ _ _ _ ?_)
  simp only [mmD_iff]
  rw [hn, mSub_ok (by omega) (by omega), mSub_ok (by omega) (by omega), show (r.length : Int) + 2 - 1 = (r.length : Int) + 1 by omega, show (r.length : Int) + 2 - 2 = (r.length : Int) by omega, g1, g2]
  refine ⟨by omega, by omega, ⟨fun c => ?_, fun c => ?_, fun c => ?_, fun c => ?_, fun c => ?_, fun c => ?_, fun c => ?_, fun c => ?_, fun c => ?_, fun c => ?_, fun c => ?_, fun c => ?_, fun c => ?_, fun c => ?_, fun c => ?_, trivial⟩, fun c => ?_⟩
  · have e : t = 10043 := by have := inv _ c; omega
    refine T_m_joins_1 _ _ _ _ _ _ _ _ (q_m_clip (fin _ ?_))
    rw [nAdd_ok (by omega) (by omega), e, jn_add]
  · have e : t = 10045 := by have := inv _ c; omega
    refine T_m_joins_2 _ _ _ _ _ _ _ _ (q_m_clip (fin _ ?_))
    rw [nSub_ok (by omega) (by omega), e, jn_sub]
  · have e : t = 10042 := by have := inv _ c; omega
    refine T_m_joins_3 _ _ _ _ _ _ _ _ (q_m_clip (fin _ ?_))
    rw [nMul_ok (by omega) (by omega), e, jn_mul]
  · have e : t = 10047 := by have := inv _ c; omega
    refine T_m_joins_4 _ _ _ _ _ _ _ _ (q_m_floor ha hb (fin _ ?_))
    rw [e, jn_div]
  · have e : t = 10227 := by have := inv _ c; omega
    refine T_m_joins_5 _ _ _ _ _ _ _ _ ?_
    rw [lc_ge0]
    refine ⟨fun c2 => fin _ ?_, fun c2 => fin _ ?_⟩
    · rw [e, jn_min, if_neg (by omega)]
    · rw [e, jn_min, if_pos (by omega)]
  · have e : t = 10228 := by have := inv _ c; omega
    refine T_m_joins_8 _ _ _ _ _ _ _ _ ?_
    rw [lc_le0]
    refine ⟨fun c2 => fin _ ?_, fun c2 => fin _ ?_⟩
    · rw [e, jn_max, if_neg (by omega)]
    · rw [e, jn_max, if_pos (by omega)]
  · exact absurd (inv _ c) (by omega)
  · exact absurd (inv _ c) (by omega)
  · exact absurd (inv _ c) (by omega)
  · exact absurd (inv _ c) (by omega)
  · exact absurd (inv _ c) (by omega)
  · have e : t = 10060 := by have := inv _ c; omega
    refine T_m_joins_11 _ _ _ _ _ _ _ _ ?_
    rw [lc_ge0]
    refine ⟨fun c2 => fin _ ?_, fun c2 => fin _ ?_⟩
    · rw [e, jn_lt, if_neg (by omega)]
    · rw [e, jn_lt, if_pos (by omega)]
  · have e : t = 10062 := by have := inv _ c; omega
    refine T_m_joins_14 _ _ _ _ _ _ _ _ ?_
    rw [lc_le0]
    refine ⟨fun c2 => fin _ ?_, fun c2 => fin _ ?_⟩
    · rw [e, jn_gt, if_neg (by omega)]
    · rw [e, jn_gt, if_pos (by omega)]
  · have e : t = 10061 := by have := inv _ c; omega
    refine T_m_joins_17 _ _ _ _ _ _ _ _ ?_
    rw [lc_ne0]
    refine ⟨fun c2 => fin _ ?_, fun c2 => fin _ ?_⟩
    · rw [e, jn_eq, if_neg c2]
    · rw [e, jn_eq, if_pos (Decidable.of_not_not c2)]
  · have e : t = 10224 := by have := inv _ c; omega
    refine T_m_joins_20 _ _ _ _ _ _ _ _ (fin _ ?_)
    rw [nMul_ok (by omega) (by omega), e, jn_and]
  · have e : t = 10223 := by have := inv _ rfl; omega
    refine T_m_joins_21 _ _ _ _ _ _ _ _ ?_
    rw [nAdd_ok (by omega) (by omega), lc_le0]
    refine ⟨fun c2 => fin _ ?_, fun c2 => fin _ ?_⟩
    · rw [e, jn_or, if_neg (by omega)]
    · rw [e, jn_or, if_pos (by omega)]
theorem codeOf_sort {t : Int} : (tkS t = 0 → (t < 10000 ∧ codeOf t = t + 1000) ∨ (t = 10211 ∧ codeOf t = 7) ∨ (t = 10214 ∧ codeOf t = 8) ∨ (t = 10203 ∧ codeOf t = 9) ∨ (t = 10204 ∧ codeOf t = 10) ∨ (t = 10222 ∧ codeOf t = 11)) := by
  intro h
  rcases tkS0 h with h | rfl | rfl | rfl | rfl | rfl
  · left
    refine ⟨h.2, ?_⟩
    unfold codeOf
    rw [if_pos h.2]
  all_goals simp [codeOf]
/-- what the facts' words stand for, on the reference's side -/
def envM (h : mmH) (e : Int → Int) : Prop := ∀ i, 0 ≤ i → i < 5 → h 328 i = e i
theorem l_m_told {a b : Int} {e tk : Int → Int} {kk : Bool} (hb : b ≤ 1600) (he : envOk e) (henv : envM h e) (htk : ∀ j, a ≤ j → j < b → h 322 (1600 + j) = codeOf (tk j)) :
    ∀ (n : Nat) (i : Int) (ks : List Bool) (st : List Int) (h' : mmH) (w4 : mmV), i + n = b → 0 ≤ i → a ≤ i → chkR tk n i ks = some [kk] → sk ks st → ks.length ≤ 64 → Fr Spm h h' → pr h' 327 st → h' 282 59 = (st.length : Int) →
      (∀ h', Fr Spm h h' → Q ((evR e tk n i st).headD 0) h') → qB tFM (d + 2) k_m_told (h 0 0) (h 0 1) Q 1 [(3, 282), (1, a), (1, b), (1, i), w4] [] h'
  | 0, i, ks, st, h', w4, hi, hi0, hai, hc, hs, hl, hF, hp, hn, hy => by
    cases hc
    obtain ⟨v, rfl, hv⟩ := sk1 hs
    refine T_m_told_1 _ _ _ _ _ _ _ _ _ ⟨fun _ => ?_, fun c => absurd (by omega) c⟩
    have := hp.1
    simp only [List.length_nil] at this
    rw [show (0 : Int) = ((0 : Nat) : Int) from rfl, this]
    exact hy h' hF
  | n + 1, i, ks, st, h', w4, hi, hi0, hai, hc, hs, hl, hF, hp, hn, hy => by
    unfold chkR at hc
    cases h1 : chk1 (tk i) ks with
    | none => rw [h1] at hc; cases hc
    | some k1 =>
      rw [h1] at hc
      have hs1 := ev1_ok he h1 hs
      have hlen := sk_len hs
      have hcode : h' 322 (1600 + i) = codeOf (tk i) := by rw [hF _ _ (by unfold Spm; omega)]; exact htk i hai (by omega)
      have henv' : envM h' e := fun j j1 j2 => by rw [hF _ _ (by unfold Spm; omega)]; exact henv j j1 j2
      have hev : ∀ st', st' = ev1 e (tk i) st → ∀ h', Fr Spm h h' → Q ((evR e tk n (i + 1) st').headD 0) h' := fun st' q => by rw [q]; exact hy
      refine T_m_told_1 _ _ _ _ _ _ _ _ _ ⟨fun c => absurd c (by omega), fun _ => ?_⟩
      rw [mAdd_ok (a := 1600) (by omega) (by omega), mAdd_ok (a := i) (by omega) (by omega), hcode]
      refine mmD_of (by omega) ?_
      generalize tk i = t at *
      -- a number, a fact's word, or all: pushed
      have push : ∀ (x : Int) (w : mmV), ev1 e t st = x :: st → ks.length < 64 → k1.length = ks.length + 1 → qC tFM (d + 1 + 1) k_m_puts [282, x] h' (fun _ h2 => qB tFM (d + 2) k_m_told (h 0 0) (h 0 1) Q 1 [(3, 282), (1, a), (1, b), (1, i + 1), w] [] h2) := by
        intro x w hev1 hk hk1
        refine q_m_puts (by omega) (by omega) ?_
        rw [hn]
        refine l_m_told hb he henv htk n (i + 1) k1 (x :: st) _ w (by omega) (by omega) (by omega) hc (by rw [← hev1]; exact hs1) (by omega) ((hF.put (Or.inl rfl)).put (Or.inr ⟨rfl, rfl⟩)) ⟨?_, ?_⟩ ?_ (hev _ hev1.symm)
        · rw [mmS_cell (by omega), mmS_self]
        · exact pr_fr (h := mmS h' 327 (st.length : Int) x) (fun j => by rw [mmS_cell (by omega)]) (pr_put (Int.le_refl _) hp)
        · rw [mmS_self, List.length_cons]; omega
      have join : ∀ (y x : Int) (r : List Int) (w : mmV), st = y :: x :: r → jnOk t x y → k1.length ≤ ks.length → ev1 e t st = jn t x y :: r → qC tFM (d + 2) k_m_joins [282, codeOf t] h' (fun _ h2 => qB tFM (d + 2) k_m_told (h 0 0) (h 0 1) Q 1 [(3, 282), (1, a), (1, b), (1, i + 1), w] [] h2) := by
        intro y x r w hst hj hk1 hev1
        subst hst
        simp only [List.length_cons] at hlen hn
        refine q_m_joins hj (by omega) hp (by omega) (fun h2 f2 p2 n2 => ?_)
        exact l_m_told hb he henv htk n (i + 1) k1 (jn t x y :: r) h2 w (by omega) (by omega) (by omega) hc (by rw [← hev1]; exact hs1) (by omega) (hF.tr f2) p2 (by rw [n2, List.length_cons]; omega) (hev _ hev1.symm)
      have hjoin : ∀ (y x : Int) (r : List Int), st = y :: x :: r → jnOk t x y → k1.length ≤ ks.length → ev1 e t st = jn t x y :: r → codeOf t < 1000 ∧ codeOf t ≠ 18 ∧ codeOf t ≠ 17 ∧ ¬ (7 ≤ codeOf t ∧ codeOf t ≤ 11) := by
        intro y x r _ hj _ _
        rcases hj.sort with rfl | rfl | rfl | rfl | rfl | rfl | rfl | rfl | rfl | rfl | rfl <;> simp [codeOf]
      unfold chk1 at h1
      unfold ev1 at hs1 hev push join hjoin
      split at h1
      · next e0 =>
        split at h1
        case isFalse => cases h1
        case isTrue hk =>
          cases h1
          rw [e0] at push
          rcases codeOf_sort e0 with ⟨q1, q2⟩ | ⟨q1, q2⟩ | ⟨q1, q2⟩ | ⟨q1, q2⟩ | ⟨q1, q2⟩ | ⟨q1, q2⟩
          · have q3 := tkS0 e0
            refine ⟨fun c => absurd c (by omega), fun _ => ?_⟩
            rw [q2, mSub_ok (by omega) (by omega), show t + 1000 - 1000 = t by omega]
            refine push _ _ ?_ hk rfl
            unfold sgl
            rw [if_neg (by omega), if_neg (by omega), if_neg (by omega), if_neg (by omega), if_neg (by omega), if_neg (by omega)]
            rfl
          all_goals
            refine ⟨fun _ => ⟨fun _ => ⟨fun _ => q_m_isIn (fun x hx => ⟨fun c => absurd (hx.neg c) (by omega), fun _ => ?_⟩), fun c => absurd (Decidable.of_not_not c) (by omega)⟩, fun c => absurd (Decidable.of_not_not c) (by omega)⟩, fun c => absurd (by omega) c⟩
            rw [q2, mSub_ok (by omega) (by omega)]
            refine mmD_of (by omega) ?_
            rw [henv' _ (by omega) (by omega)]
            refine push _ _ ?_ hk rfl
            subst q1
            simp [sgl]
      · next e0 =>
        split at h1
        case isFalse => cases h1
        case isTrue hk =>
          cases h1
          rw [e0] at push
          have q1 := tkS1 e0
          have q2 : codeOf t = 18 := by rw [q1]; simp [codeOf]
          refine ⟨fun _ => ⟨fun c => absurd q2 c, fun _ => ?_⟩, fun c => absurd (by omega) c⟩
          refine push _ _ ?_ hk rfl
          subst q1
          simp [sgl]
      · next r0 e0 =>
        cases h1
        have ht := tkS2 e0
        have q2 : codeOf t = 17 := by rw [ht]; simp [codeOf]
        match st, hs, hp, hlen, hs1, hev, hn with
        | v :: r, hs, hp, hlen, hs1, hev, hn =>
          rw [e0] at hs1 hev
          have hv : v = 0 ∨ v = 1 := hs.1
          refine ⟨fun _ => ⟨fun _ => ⟨fun c => absurd q2 c, fun _ => ?_⟩, fun c => absurd (Decidable.of_not_not c) (by omega)⟩, fun c => absurd (by omega) c⟩
          have hl2 := hl
          simp only [List.length_cons] at hlen hn hl2
          simp only [mmD_iff]
          rw [hn, mSub_ok (by omega) (by omega), show (((r.length + 1 : Nat)) : Int) - 1 = (r.length : Int) by omega, hp.1, nSub_ok (by omega) (by omega)]
          refine ⟨by omega, by omega, ?_⟩
          exact l_m_told hb he henv htk n (i + 1) _ ((1 - v) :: r) (mmS h' 327 (r.length : Int) (1 - v)) _ (by omega) (by omega) (by omega) hc hs1 hl (hF.put (Or.inl rfl)) ⟨by rw [mmS_self], pr_put (Int.le_refl _) hp.2⟩ (by rw [mmS_cell (by omega), hn, List.length_cons]) (hev _ rfl)
      all_goals first | cases h1; done | skip
      all_goals
        next r0 e0 =>
        cases h1
        match st, hs, join, hjoin with
        | y :: x :: r, hs, join, hjoin =>
          rw [e0] at join hjoin
          have hj : jnOk t x y := by
            first
              | exact Or.inl ⟨e0, hs.2.1, hs.1⟩
              | exact Or.inr ⟨Or.inl e0, hs.2.1, hs.1⟩
              | exact Or.inr ⟨Or.inr e0, hs.2.1, hs.1⟩
          obtain ⟨q1, q2, q3, q4⟩ := hjoin y x r rfl hj (by simp) rfl
          exact ⟨fun _ => ⟨fun _ => ⟨fun _ => q_m_isIn (fun z hz => ⟨fun _ => join y x r _ rfl hj (by simp) rfl, fun c => absurd (hz.pos c) q4⟩), fun c => absurd (Decidable.of_not_not c) q3⟩, fun c => absurd (Decidable.of_not_not c) q2⟩, fun c => absurd q1 c⟩
theorem q_m_told {a b : Int} {e tk : Int → Int} {kk : Bool} (ha : 0 ≤ a) (hab : a ≤ b) (hb : b ≤ 1600) (he : envOk e) (henv : envM h e) (htk : ∀ j, a ≤ j → j < b → h 322 (1600 + j) = codeOf (tk j)) (hc : chkR tk (b - a).toNat a [] = some [kk])
    (hy : ∀ h', Fr Spm h h' → Q ((evR e tk (b - a).toNat a []).headD 0) h') : qC tFM (d + 3) k_m_told [282, a, b] h Q := by
  refine qC_intro (T_m_told_0 _ _ _ _ _ _ _ ?_)
  have hF0 : Fr Spm h (mmS h 282 59 0) := Fr.rf.put (Or.inr ⟨rfl, rfl⟩)
  exact l_m_told (h := h) hb he henv htk (b - a).toNat a [] [] (mmS h 282 59 0) (0, 0) (by omega) ha (Int.le_refl _) hc trivial (by simp) hF0 trivial (mmS_self _ _ _ _) hy
end VM
