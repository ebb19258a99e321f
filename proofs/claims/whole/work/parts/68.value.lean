/-! ===== mm: the pile's loop on both sides ===== -/
/-- what the facts' words stand for, in the cell of tolls and bars -/
def envC (L : Int) (h : mmH) (e : Int → Int) : Prop := h L 8 = e 0 ∧ h L 9 = e 1 ∧ h L 10 = e 2 ∧ h L 11 = e 3 ∧ h L 12 = e 4
theorem sk1 {k : Bool} {st : List Int} (h : sk [k] st) : ∃ v, st = [v] ∧ vk k v := by
  match st, h with
  | [v], h => exact ⟨v, rfl, h.1⟩
  | _ :: _ :: _, h => exact h.2.elim
section VAA
variable {d : Nat} {h : mmH} {Q : Int → mmH → Prop}
theorem pA_single {t : Int} {e : Int → Int} (henv : envC 38 h e) (hy : Q (sgl e t) h) : qC tFA (d + 1) k_Laws_single [38, t] h Q := by
  obtain ⟨e0, e1, e2, e3, e4⟩ := henv
  unfold sgl at hy
  refine qC_intro (TA38_Laws_single_0 _ _ _ _ _ _ ⟨fun c => ?_, fun c1 => ⟨fun c => ?_, fun c2 => ⟨fun c => ?_, fun c3 => ⟨fun c => ?_, fun c4 => ⟨fun c => ?_, fun c5 => ⟨fun c => ?_, fun c6 => ?_⟩⟩⟩⟩⟩⟩)
  · rw [if_pos c] at hy; rw [e2]; exact hy
  · rw [if_neg c1, if_pos c] at hy; rw [e3]; exact hy
  · rw [if_neg c1, if_neg c2, if_pos c] at hy; rw [e0]; exact hy
  · rw [if_neg c1, if_neg c2, if_neg c3, if_pos c] at hy; rw [e1]; exact hy
  · rw [if_neg c1, if_neg c2, if_neg c3, if_neg c4, if_pos c] at hy; rw [e4]; exact hy
  · rw [if_neg c1, if_neg c2, if_neg c3, if_neg c4, if_neg c5, if_pos c] at hy; exact hy
  · rw [if_neg c1, if_neg c2, if_neg c3, if_neg c4, if_neg c5, if_neg c6] at hy; exact hy
theorem lA_valueOf {a b : Int} {e : Int → Int} {kk : Bool} (hb : b ≤ 1600) (he : envOk e) (henv : envC 38 h e) :
    ∀ (n : Nat) (i : Int) (ks : List Bool) (st : List Int) (h' : mmH) (w5 w6 : mmV), i + n = b → 0 ≤ i → chkR (fun j => h 43 j) n i ks = some [kk] → sk ks st → ks.length ≤ 64 → Fr (fun k _ => k = 44) h h' → pr h' 44 st →
      (∀ h', Fr (fun k _ => k = 44) h h' → Q ((evR e (fun j => h 43 j) n i st).headD 0) h') → qB tFA (d + 1) k_Laws_valueOf (h 0 0) (h 0 1) Q 1 [(3, 38), (1, a), (1, b), (1, (st.length : Int)), (1, i), w5, w6, (0, 0)] [] h'
  | 0, i, ks, st, h', w5, w6, hi, hi0, hc, hs, hl, hF, hp, hy => by
    cases hc
    obtain ⟨v, rfl, hv⟩ := sk1 hs
    refine TA38_Laws_valueOf_1 _ _ _ _ _ _ _ _ _ _ _ ⟨fun _ => ⟨fun c => absurd c (by simp), fun _ => ?_⟩, fun c => absurd (by omega) c⟩
    rw [mSub_ok (by simp) (by simp)]
    refine mmD_of (by simp) ?_
    have := hp.1
    simp only [List.length_singleton, List.length_nil] at this ⊢
    rw [show ((1 : Nat) : Int) - 1 = ((0 : Nat) : Int) by omega, this]
    exact hy h' hF
  | n + 1, i, ks, st, h', w5, w6, hi, hi0, hc, hs, hl, hF, hp, hy => by
    unfold chkR at hc
    cases h1 : chk1 (h 43 i) ks with
    | none => rw [h1] at hc; cases hc
    | some k1 =>
      rw [h1] at hc
      have hs1 := ev1_ok he h1 hs
      have hlen := sk_len hs
      have htk : h' 43 i = h 43 i := hF _ _ (by omega)
      have henv' : envC 38 h' e := ⟨by rw [hF _ _ (by omega)]; exact henv.1, by rw [hF _ _ (by omega)]; exact henv.2.1, by rw [hF _ _ (by omega)]; exact henv.2.2.1, by rw [hF _ _ (by omega)]; exact henv.2.2.2.1, by rw [hF _ _ (by omega)]; exact henv.2.2.2.2⟩
      have hev : ∀ st', st' = ev1 e (h 43 i) st → ∀ h', Fr (fun k _ => k = 44) h h' → Q ((evR e (fun j => h 43 j) n (i + 1) st').headD 0) h' := fun st' q => by rw [q]; exact hy
      refine TA38_Laws_valueOf_1 _ _ _ _ _ _ _ _ _ _ _ ⟨fun c => absurd c (by omega), fun _ => ⟨fun c => absurd c (by omega), fun _ => mmD_of (by omega) ?_⟩⟩
      rw [htk, mAdd_ok (a := i) (by omega) (by omega)]
      generalize h 43 i = t at *
      -- a number, or all: pushed
      have push : (tkS t = 0 ∨ tkS t = 1) → ks.length < 64 → k1.length = ks.length + 1 → ev1 e t st = sgl e t :: st → t ≠ 10225 → qB tFA (d + 1) k_Laws_valueOf (h 0 0) (h 0 1) Q 2 [(3, 38), (1, a), (1, b), (1, (st.length : Int)), (1, i), (1, t), w6, (0, 0)] [] h' := by
        intro ht hk hk1 hev1 hne
        have hnj : ¬ (t = 10223 ∨ t = 10224 ∨ t = 10227 ∨ t = 10228 ∨ (10000 ≤ t ∧ t < 10200)) := by
          rcases ht with ht | ht
          · have := tkS0 ht; omega
          · have := tkS1 ht; omega
        refine TA38_Laws_valueOf_2 _ _ _ _ _ _ _ _ _ _ _ (pA_isJoint (fun x hx => ⟨fun c => ?_, fun c => absurd (hx.pos c) hnj⟩))
        refine TA38_Laws_valueOf_3 _ _ _ _ _ _ _ _ _ _ _ ⟨fun c => absurd c (by omega), fun _ => pA_single henv' (mmD_of (by omega) ?_)⟩
        rw [mAdd_ok (a := (st.length : Int)) (by omega) (by omega), mAdd_ok (a := i) (by omega) (by omega)]
        have := lA_valueOf (a := a) hb he henv n (i + 1) k1 (sgl e t :: st) (mmS h' 44 (st.length : Int) (sgl e t)) (1, t) w6 (by omega) (by omega) hc (by rw [← hev1]; exact hs1) (by omega) (hF.put rfl) ⟨by rw [mmS_self], pr_put (Int.le_refl _) hp⟩ (hev _ hev1.symm)
        rw [List.length_cons, show (((st.length + 1 : Nat)) : Int) = (st.length : Int) + 1 by omega] at this
        exact this
      -- two numbers joined
      have join : ∀ (y x : Int) (r : List Int), st = y :: x :: r → jnOk t x y → k1.length ≤ ks.length → ev1 e t st = jn t x y :: r → t ≠ 10225 → qB tFA (d + 1) k_Laws_valueOf (h 0 0) (h 0 1) Q 2 [(3, 38), (1, a), (1, b), (1, (st.length : Int)), (1, i), (1, t), w6, (0, 0)] [] h' := by
        intro y x r hst hj hk1 hev1 hne
        subst hst
        simp only [List.length_cons] at hlen
        have hsrt := hj.sort
        refine TA38_Laws_valueOf_2 _ _ _ _ _ _ _ _ _ _ _ (pA_isJoint (fun z hz => ⟨fun c => absurd hsrt (by have := hz.neg c; omega), fun _ => ⟨fun c => absurd c (by simp only [List.length_cons]; omega), fun _ => ?_⟩⟩))
        simp only [mmD_iff, List.length_cons]
        rw [mAdd_ok (a := (((r.length + 1 + 1 : Nat)) : Int)) (by omega) (by omega), show (((r.length + 1 + 1 : Nat)) : Int) + -1 = (r.length : Int) + 1 by omega, mSub_ok (by omega) (by omega), show (r.length : Int) + 1 - 1 = (r.length : Int) by omega]
        refine ⟨by omega, by omega, ?_⟩
        have g1 : h' 44 (r.length : Int) = x := hp.2.1
        have g2 : h' 44 ((r.length : Int) + 1) = y := by
          have := hp.1
          simp only [List.length_cons] at this
          rw [show (((r.length + 1 : Nat)) : Int) = (r.length : Int) + 1 by omega] at this
          exact this
        rw [g1, g2]
        refine pA_joined hj (fun z hz => ⟨by omega, ?_⟩)
        rw [mm_clp, hz, mAdd_ok (a := i) (by omega) (by omega)]
        have hjb : -1000000 ≤ jn t x y ∧ jn t x y ≤ 1000000 := by rw [← jn_clp hj]; exact clp_ok _
        rw [mL2i_ok (by omega) (by omega)]
        have := lA_valueOf (a := a) hb he henv n (i + 1) k1 (jn t x y :: r) (mmS h' 44 (r.length : Int) (jn t x y)) (1, t) (2, z) (by omega) (by omega) hc (by rw [← hev1]; exact hs1) (by omega) (hF.put rfl) ⟨by rw [mmS_self], pr_put (Int.le_refl _) hp.2.2⟩ (hev _ hev1.symm)
        rw [List.length_cons, show (((r.length + 1 : Nat)) : Int) = (r.length : Int) + 1 by omega] at this
        exact this
      unfold chk1 at h1
      unfold ev1 at hs1 hev push join
      split at h1
      · next e0 =>
        split at h1
        case isFalse => cases h1
        case isTrue hk =>
          cases h1
          have hne : t ≠ 10225 := by have := tkS0 e0; omega
          rw [e0] at push
          exact ⟨fun _ => push (Or.inl rfl) hk rfl rfl hne, fun c => absurd (Decidable.of_not_not c) hne⟩
      · next e0 =>
        split at h1
        case isFalse => cases h1
        case isTrue hk =>
          cases h1
          have hne : t ≠ 10225 := by have := tkS1 e0; omega
          rw [e0] at push
          exact ⟨fun _ => push (Or.inr rfl) hk rfl rfl hne, fun c => absurd (Decidable.of_not_not c) hne⟩
      · next r0 e0 =>
        cases h1
        have ht := tkS2 e0
        match st, hs, hp, hlen, hs1, hev with
        | v :: r, hs, hp, hlen, hs1, hev =>
          rw [e0] at hs1 hev
          have hv : v = 0 ∨ v = 1 := hs.1
          refine ⟨fun c => absurd ht c, fun _ => ⟨fun c => absurd c (by simp only [List.length_cons]; omega), fun _ => ?_⟩⟩
          have hl2 := hl
          simp only [mmD_iff, List.length_cons] at hlen hl2 ⊢
          rw [mSub_ok (a := (((r.length + 1 : Nat)) : Int)) (by omega) (by omega), show (((r.length + 1 : Nat)) : Int) - 1 = (r.length : Int) by omega, hp.1, mSub_ok (by omega) (by omega)]
          refine ⟨by omega, by omega, ?_⟩
          exact lA_valueOf hb he henv n (i + 1) _ ((1 - v) :: r) (mmS h' 44 (r.length : Int) (1 - v)) (1, t) w6 (by omega) (by omega) hc hs1 hl (hF.put rfl) ⟨by rw [mmS_self], pr_put (Int.le_refl _) hp.2⟩ (hev _ rfl)
      · next r0 e0 =>
        cases h1
        match st, hs, join with
        | y :: x :: r, hs, join =>
          rw [e0] at join
          have hne : t ≠ 10225 := by have := tkS3 e0; omega
          exact ⟨fun _ => join y x r rfl (Or.inl ⟨e0, hs.2.1, hs.1⟩) (by simp) rfl hne, fun c => absurd (Decidable.of_not_not c) hne⟩
      · next r0 e0 =>
        cases h1
        match st, hs, join with
        | y :: x :: r, hs, join =>
          rw [e0] at join
          have hne : t ≠ 10225 := by have := tkS4 e0; omega
          exact ⟨fun _ => join y x r rfl (Or.inr ⟨Or.inl e0, hs.2.1, hs.1⟩) (by simp) rfl hne, fun c => absurd (Decidable.of_not_not c) hne⟩
      · next r0 e0 =>
        cases h1
        match st, hs, join with
        | y :: x :: r, hs, join =>
          rw [e0] at join
          have hne : t ≠ 10225 := by have := tkS5 e0; omega
          exact ⟨fun _ => join y x r rfl (Or.inr ⟨Or.inr e0, hs.2.1, hs.1⟩) (by simp) rfl hne, fun c => absurd (Decidable.of_not_not c) hne⟩
      · cases h1
theorem pA_valueOf {a b : Int} {e : Int → Int} {kk : Bool} (ha : 0 ≤ a) (hab : a ≤ b) (hb : b ≤ 1600) (he : envOk e) (henv : envC 38 h e) (hc : chkR (fun j => h 43 j) (b - a).toNat a [] = some [kk])
    (hy : ∀ h', Fr (fun k _ => k = 44) h h' → Q ((evR e (fun j => h 43 j) (b - a).toNat a []).headD 0) h') : qC tFA (d + 2) k_Laws_valueOf [38, a, b] h Q :=
  qC_intro (TA38_Laws_valueOf_0 _ _ _ _ _ _ _ (lA_valueOf hb he henv (b - a).toNat a [] [] h (0, 0) (0, 0) (by omega) ha hc trivial (by simp) Fr.rf trivial hy))
end VAA
section VAB
variable {d : Nat} {h : mmH} {Q : Int → mmH → Prop}
theorem pB_single {t : Int} {e : Int → Int} (henv : envC 79 h e) (hy : Q (sgl e t) h) : qC tFB (d + 1) k_Laws_single [79, t] h Q := by
  obtain ⟨e0, e1, e2, e3, e4⟩ := henv
  unfold sgl at hy
  refine qC_intro (TB79_Laws_single_0 _ _ _ _ _ _ ⟨fun c => ?_, fun c1 => ⟨fun c => ?_, fun c2 => ⟨fun c => ?_, fun c3 => ⟨fun c => ?_, fun c4 => ⟨fun c => ?_, fun c5 => ⟨fun c => ?_, fun c6 => ?_⟩⟩⟩⟩⟩⟩)
  · rw [if_pos c] at hy; rw [e2]; exact hy
  · rw [if_neg c1, if_pos c] at hy; rw [e3]; exact hy
  · rw [if_neg c1, if_neg c2, if_pos c] at hy; rw [e0]; exact hy
  · rw [if_neg c1, if_neg c2, if_neg c3, if_pos c] at hy; rw [e1]; exact hy
  · rw [if_neg c1, if_neg c2, if_neg c3, if_neg c4, if_pos c] at hy; rw [e4]; exact hy
  · rw [if_neg c1, if_neg c2, if_neg c3, if_neg c4, if_neg c5, if_pos c] at hy; exact hy
  · rw [if_neg c1, if_neg c2, if_neg c3, if_neg c4, if_neg c5, if_neg c6] at hy; exact hy
theorem lB_valueOf {a b : Int} {e : Int → Int} {kk : Bool} (hb : b ≤ 1600) (he : envOk e) (henv : envC 79 h e) :
    ∀ (n : Nat) (i : Int) (ks : List Bool) (st : List Int) (h' : mmH) (w5 w6 : mmV), i + n = b → 0 ≤ i → chkR (fun j => h 84 j) n i ks = some [kk] → sk ks st → ks.length ≤ 64 → Fr (fun k _ => k = 85) h h' → pr h' 85 st →
      (∀ h', Fr (fun k _ => k = 85) h h' → Q ((evR e (fun j => h 84 j) n i st).headD 0) h') → qB tFB (d + 1) k_Laws_valueOf (h 0 0) (h 0 1) Q 1 [(3, 79), (1, a), (1, b), (1, (st.length : Int)), (1, i), w5, w6, (0, 0)] [] h'
  | 0, i, ks, st, h', w5, w6, hi, hi0, hc, hs, hl, hF, hp, hy => by
    cases hc
    obtain ⟨v, rfl, hv⟩ := sk1 hs
    refine TB79_Laws_valueOf_1 _ _ _ _ _ _ _ _ _ _ _ ⟨fun _ => ⟨fun c => absurd c (by simp), fun _ => ?_⟩, fun c => absurd (by omega) c⟩
    rw [mSub_ok (by simp) (by simp)]
    refine mmD_of (by simp) ?_
    have := hp.1
    simp only [List.length_singleton, List.length_nil] at this ⊢
    rw [show ((1 : Nat) : Int) - 1 = ((0 : Nat) : Int) by omega, this]
    exact hy h' hF
  | n + 1, i, ks, st, h', w5, w6, hi, hi0, hc, hs, hl, hF, hp, hy => by
    unfold chkR at hc
    cases h1 : chk1 (h 84 i) ks with
    | none => rw [h1] at hc; cases hc
    | some k1 =>
      rw [h1] at hc
      have hs1 := ev1_ok he h1 hs
      have hlen := sk_len hs
      have htk : h' 84 i = h 84 i := hF _ _ (by omega)
      have henv' : envC 79 h' e := ⟨by rw [hF _ _ (by omega)]; exact henv.1, by rw [hF _ _ (by omega)]; exact henv.2.1, by rw [hF _ _ (by omega)]; exact henv.2.2.1, by rw [hF _ _ (by omega)]; exact henv.2.2.2.1, by rw [hF _ _ (by omega)]; exact henv.2.2.2.2⟩
      have hev : ∀ st', st' = ev1 e (h 84 i) st → ∀ h', Fr (fun k _ => k = 85) h h' → Q ((evR e (fun j => h 84 j) n (i + 1) st').headD 0) h' := fun st' q => by rw [q]; exact hy
      refine TB79_Laws_valueOf_1 _ _ _ _ _ _ _ _ _ _ _ ⟨fun c => absurd c (by omega), fun _ => ⟨fun c => absurd c (by omega), fun _ => mmD_of (by omega) ?_⟩⟩
      rw [htk, mAdd_ok (a := i) (by omega) (by omega)]
      generalize h 84 i = t at *
      -- a number, or all: pushed
      have push : (tkS t = 0 ∨ tkS t = 1) → ks.length < 64 → k1.length = ks.length + 1 → ev1 e t st = sgl e t :: st → t ≠ 10225 → qB tFB (d + 1) k_Laws_valueOf (h 0 0) (h 0 1) Q 2 [(3, 79), (1, a), (1, b), (1, (st.length : Int)), (1, i), (1, t), w6, (0, 0)] [] h' := by
        intro ht hk hk1 hev1 hne
        have hnj : ¬ (t = 10223 ∨ t = 10224 ∨ t = 10227 ∨ t = 10228 ∨ (10000 ≤ t ∧ t < 10200)) := by
          rcases ht with ht | ht
          · have := tkS0 ht; omega
          · have := tkS1 ht; omega
        refine TB79_Laws_valueOf_2 _ _ _ _ _ _ _ _ _ _ _ (pB_isJoint (fun x hx => ⟨fun c => ?_, fun c => absurd (hx.pos c) hnj⟩))
        refine TB79_Laws_valueOf_3 _ _ _ _ _ _ _ _ _ _ _ ⟨fun c => absurd c (by omega), fun _ => pB_single henv' (mmD_of (by omega) ?_)⟩
        rw [mAdd_ok (a := (st.length : Int)) (by omega) (by omega), mAdd_ok (a := i) (by omega) (by omega)]
        have := lB_valueOf (a := a) hb he henv n (i + 1) k1 (sgl e t :: st) (mmS h' 85 (st.length : Int) (sgl e t)) (1, t) w6 (by omega) (by omega) hc (by rw [← hev1]; exact hs1) (by omega) (hF.put rfl) ⟨by rw [mmS_self], pr_put (Int.le_refl _) hp⟩ (hev _ hev1.symm)
        rw [List.length_cons, show (((st.length + 1 : Nat)) : Int) = (st.length : Int) + 1 by omega] at this
        exact this
      -- two numbers joined
      have join : ∀ (y x : Int) (r : List Int), st = y :: x :: r → jnOk t x y → k1.length ≤ ks.length → ev1 e t st = jn t x y :: r → t ≠ 10225 → qB tFB (d + 1) k_Laws_valueOf (h 0 0) (h 0 1) Q 2 [(3, 79), (1, a), (1, b), (1, (st.length : Int)), (1, i), (1, t), w6, (0, 0)] [] h' := by
        intro y x r hst hj hk1 hev1 hne
        subst hst
        simp only [List.length_cons] at hlen
        have hsrt := hj.sort
        refine TB79_Laws_valueOf_2 _ _ _ _ _ _ _ _ _ _ _ (pB_isJoint (fun z hz => ⟨fun c => absurd hsrt (by have := hz.neg c; omega), fun _ => ⟨fun c => absurd c (by simp only [List.length_cons]; omega), fun _ => ?_⟩⟩))
        simp only [mmD_iff, List.length_cons]
        rw [mAdd_ok (a := (((r.length + 1 + 1 : Nat)) : Int)) (by omega) (by omega), show (((r.length + 1 + 1 : Nat)) : Int) + -1 = (r.length : Int) + 1 by omega, mSub_ok (by omega) (by omega), show (r.length : Int) + 1 - 1 = (r.length : Int) by omega]
        refine ⟨by omega, by omega, ?_⟩
        have g1 : h' 85 (r.length : Int) = x := hp.2.1
        have g2 : h' 85 ((r.length : Int) + 1) = y := by
          have := hp.1
          simp only [List.length_cons] at this
          rw [show (((r.length + 1 : Nat)) : Int) = (r.length : Int) + 1 by omega] at this
          exact this
        rw [g1, g2]
        refine pB_joined hj (fun z hz => ⟨by omega, ?_⟩)
        rw [mm_clp, hz, mAdd_ok (a := i) (by omega) (by omega)]
        have hjb : -1000000 ≤ jn t x y ∧ jn t x y ≤ 1000000 := by rw [← jn_clp hj]; exact clp_ok _
        rw [mL2i_ok (by omega) (by omega)]
        have := lB_valueOf (a := a) hb he henv n (i + 1) k1 (jn t x y :: r) (mmS h' 85 (r.length : Int) (jn t x y)) (1, t) (2, z) (by omega) (by omega) hc (by rw [← hev1]; exact hs1) (by omega) (hF.put rfl) ⟨by rw [mmS_self], pr_put (Int.le_refl _) hp.2.2⟩ (hev _ hev1.symm)
        rw [List.length_cons, show (((r.length + 1 : Nat)) : Int) = (r.length : Int) + 1 by omega] at this
        exact this
      unfold chk1 at h1
      unfold ev1 at hs1 hev push join
      split at h1
      · next e0 =>
        split at h1
        case isFalse => cases h1
        case isTrue hk =>
          cases h1
          have hne : t ≠ 10225 := by have := tkS0 e0; omega
          rw [e0] at push
          exact ⟨fun _ => push (Or.inl rfl) hk rfl rfl hne, fun c => absurd (Decidable.of_not_not c) hne⟩
      · next e0 =>
        split at h1
        case isFalse => cases h1
        case isTrue hk =>
          cases h1
          have hne : t ≠ 10225 := by have := tkS1 e0; omega
          rw [e0] at push
          exact ⟨fun _ => push (Or.inr rfl) hk rfl rfl hne, fun c => absurd (Decidable.of_not_not c) hne⟩
      · next r0 e0 =>
        cases h1
        have ht := tkS2 e0
        match st, hs, hp, hlen, hs1, hev with
        | v :: r, hs, hp, hlen, hs1, hev =>
          rw [e0] at hs1 hev
          have hv : v = 0 ∨ v = 1 := hs.1
          refine ⟨fun c => absurd ht c, fun _ => ⟨fun c => absurd c (by simp only [List.length_cons]; omega), fun _ => ?_⟩⟩
          have hl2 := hl
          simp only [mmD_iff, List.length_cons] at hlen hl2 ⊢
          rw [mSub_ok (a := (((r.length + 1 : Nat)) : Int)) (by omega) (by omega), show (((r.length + 1 : Nat)) : Int) - 1 = (r.length : Int) by omega, hp.1, mSub_ok (by omega) (by omega)]
          refine ⟨by omega, by omega, ?_⟩
          exact lB_valueOf hb he henv n (i + 1) _ ((1 - v) :: r) (mmS h' 85 (r.length : Int) (1 - v)) (1, t) w6 (by omega) (by omega) hc hs1 hl (hF.put rfl) ⟨by rw [mmS_self], pr_put (Int.le_refl _) hp.2⟩ (hev _ rfl)
      · next r0 e0 =>
        cases h1
        match st, hs, join with
        | y :: x :: r, hs, join =>
          rw [e0] at join
          have hne : t ≠ 10225 := by have := tkS3 e0; omega
          exact ⟨fun _ => join y x r rfl (Or.inl ⟨e0, hs.2.1, hs.1⟩) (by simp) rfl hne, fun c => absurd (Decidable.of_not_not c) hne⟩
      · next r0 e0 =>
        cases h1
        match st, hs, join with
        | y :: x :: r, hs, join =>
          rw [e0] at join
          have hne : t ≠ 10225 := by have := tkS4 e0; omega
          exact ⟨fun _ => join y x r rfl (Or.inr ⟨Or.inl e0, hs.2.1, hs.1⟩) (by simp) rfl hne, fun c => absurd (Decidable.of_not_not c) hne⟩
      · next r0 e0 =>
        cases h1
        match st, hs, join with
        | y :: x :: r, hs, join =>
          rw [e0] at join
          have hne : t ≠ 10225 := by have := tkS5 e0; omega
          exact ⟨fun _ => join y x r rfl (Or.inr ⟨Or.inr e0, hs.2.1, hs.1⟩) (by simp) rfl hne, fun c => absurd (Decidable.of_not_not c) hne⟩
      · cases h1
theorem pB_valueOf {a b : Int} {e : Int → Int} {kk : Bool} (ha : 0 ≤ a) (hab : a ≤ b) (hb : b ≤ 1600) (he : envOk e) (henv : envC 79 h e) (hc : chkR (fun j => h 84 j) (b - a).toNat a [] = some [kk])
    (hy : ∀ h', Fr (fun k _ => k = 85) h h' → Q ((evR e (fun j => h 84 j) (b - a).toNat a []).headD 0) h') : qC tFB (d + 2) k_Laws_valueOf [79, a, b] h Q :=
  qC_intro (TB79_Laws_valueOf_0 _ _ _ _ _ _ _ (lB_valueOf hb he henv (b - a).toNat a [] [] h (0, 0) (0, 0) (by omega) ha hc trivial (by simp) Fr.rf trivial hy))
end VAB
