/-! ===== mm: the way's measuring on one side ===== -/
def eB (h : mmH) (a b : Int) : Bool := tb (h 97 a) b && tb (h 96 3) b
def restEq (n : Int) (V : wV) (h : mmH) : Prop := ∀ x, 0 ≤ x → x < 10 → h 100 x = if x < n ∧ V x ≠ wFar then ky (V x) else 1000000000
/-- where the measuring stands -/
def rsI (h : mmH) (V : wV) (h' : mmH) : Prop := Fr (fun k _ => k = 100) h h' ∧ restEq (h 96 0) V h' ∧ wInv (h 96 0) (eB h) (h 98) (h 96 2) V
theorem eB_and {h : mmH} {a b : Int} (hb : 0 ≤ b ∧ b < 10) : mAnd (mShr (mAnd (h 97 a) (h 96 3)) b) 1 = if eB h a b then 1 else 0 := by
  rw [bit_at hb.1 (by omega), tb_and]
  rfl
theorem wInv_sm {n : Int} {E : Int → Int → Bool} {w : Int → Int} {last : Int} {V : wV} (hI : wInv n E w last V) (hn : n ≤ 10) {x : Int} (h1 : 0 ≤ x) (h2 : x < n) (hf : V x ≠ wFar) : 0 ≤ ky (V x) ∧ ky (V x) ≤ 143865 := by
  have := wInv_fin hI hn h1 h2 hf
  unfold ky
  omega
/-- is there something to shorten by b? -/
def rxc (E : Int → Int → Bool) (w : Int → Int) (a b : Int) (V : wV) : Prop := E a b = true ∧ (V b).1 ≠ 1000000 ∧ ky (V b) + 16 * w b + 1 < ky (V a)
theorem rx_pos {E : Int → Int → Bool} {w : Int → Int} {a b : Int} {V : wV} (h : rxc E w a b V) : rx E w a b V = fun x => if x = a then ((V b).1 + w b, (V b).2 + 1) else V x := if_pos h
theorem rx_neg {E : Int → Int → Bool} {w : Int → Int} {a b : Int} {V : wV} (h : ¬ rxc E w a b V) : rx E w a b V = V := if_neg h
theorem ky_far : ky wFar = 17000000 := rfl
section REA
variable {d : Nat} {h : mmH} {Q : Int → mmH → Prop}
theorem pA_restBy {V : wV} {h' : mmH} {a b : Int} (hn : h 96 0 ≤ 10) (hw : wOk (h 96 0) (eB h) (h 98)) (hR : rsI h V h') (a1 : 0 ≤ a) (a2 : a < h 96 0) (b1 : 0 ≤ b) (b2 : b < h 96 0)
    (hy : Q (if eB h a b = true ∧ V b ≠ wFar then ky (V b) + 16 * h 98 b + 1 else 1000000000) h') : qC tFA (d + 1) k_Walk_restBy [96, a, b] h' Q := by
  obtain ⟨hF, hE, hI⟩ := hR
  refine qC_intro (TA_Walk_restBy_0 _ _ _ _ _ _ _ (mmD_of (by omega) ?_))
  rw [hF 97 a (by omega), hF 96 3 (by omega), hF 98 b (by omega), eB_and ⟨b1, by omega⟩, hE b b1 (by omega)]
  refine ⟨fun c => ?_, fun c => mmD_of (by omega) ⟨fun c2 => mmD_of (by omega) (mmD_of (by omega) ?_), fun c2 => ?_⟩⟩
  · have : ¬ (eB h a b = true) := fun q => by rw [q] at c; simp at c
    rw [if_neg (fun q => this q.1)] at hy
    exact hy
  · have e : eB h a b = true := by
      cases q : eB h a b with
      | true => rfl
      | false => rw [q] at c; simp at c
    by_cases hf : V b = wFar
    · rw [if_neg (fun q => q.2 hf)] at c2
      omega
    · rw [if_pos ⟨b2, hf⟩]
      rw [if_pos ⟨e, hf⟩] at hy
      have h1 := wInv_sm hI hn b1 b2 hf
      have h2 := hw a b a1 a2 b1 b2 e
      rw [mMul_ok (by omega) (by omega), mAdd_ok (a := ky (V b)) (by omega) (by omega), mAdd_ok (by omega) (by omega), Int.mul_comm (h 98 b) 16]
      exact hy
  · have hf : V b = wFar := by
      by_cases q : V b = wFar
      · exact q
      · rw [if_pos ⟨b2, q⟩] at c2
        have h1 := wInv_sm hI hn b1 b2 q
        omega
    rw [if_neg (fun q => q.2 hf)] at hy
    exact hy
/-- one try to shorten, in the row -/
theorem rs_stepA {V : wV} {h' : mmH} {a b : Int} (hn0 : 0 ≤ h 96 0) (hn : h 96 0 ≤ 10) (hw : wOk (h 96 0) (eB h) (h 98)) (hR : rsI h V h') (a1 : 0 ≤ a) (a2 : a < h 96 0) (b1 : 0 ≤ b) (b2 : b < h 96 0) :
    (h' 100 a ≤ (if eB h a b = true ∧ V b ≠ wFar then ky (V b) + 16 * h 98 b + 1 else 1000000000) → rx (eB h) (h 98) a b V = V) ∧
    (¬ (h' 100 a ≤ (if eB h a b = true ∧ V b ≠ wFar then ky (V b) + 16 * h 98 b + 1 else 1000000000)) → rsI h (rx (eB h) (h 98) a b V) (mmS h' 100 a (if eB h a b = true ∧ V b ≠ wFar then ky (V b) + 16 * h 98 b + 1 else 1000000000))) := by
  obtain ⟨hF, hE, hI⟩ := hR
  have ha := hE a a1 (by omega)
  constructor
  · intro c
    refine rx_neg (fun q => ?_)
    obtain ⟨q1, q2, q3⟩ := q
    have hf : V b ≠ wFar := fun z => q2 (by rw [z]; rfl)
    have h1 := wInv_sm hI hn b1 b2 hf
    have h2 := hw a b a1 a2 b1 b2 q1
    rw [if_pos ⟨q1, hf⟩, ha] at c
    by_cases hfa : V a = wFar
    · rw [if_neg (fun q => q.2 hfa)] at c
      omega
    · rw [if_pos ⟨a2, hfa⟩] at c
      omega
  · intro c
    by_cases e : eB h a b = true ∧ V b ≠ wFar
    · rw [if_pos e] at c ⊢
      have h1 := wInv_sm hI hn b1 b2 e.2
      have h2 := hw a b a1 a2 b1 b2 e.1
      have hc : rxc (eB h) (h 98) a b V := by
        refine ⟨e.1, fun q => e.2 ((wFar_iff hI hn b1 b2).mp q), ?_⟩
        by_cases hfa : V a = wFar
        · rw [hfa, ky_far]
          omega
        · rw [ha, if_pos ⟨a2, hfa⟩] at c
          omega
      have hI2 := rx_inv hn (fun x x1 x2 => hw a x a1 a2 x1 x2) hI a1 a2 b1 b2
      refine ⟨hF.put rfl, fun x x1 x2 => ?_, hI2⟩
      rw [rx_pos hc, mmS_slot]
      by_cases ex : x = a
      · have hnf : ((V b).1 + h 98 b, (V b).2 + 1) ≠ wFar := by
          intro q
          have := congrArg Prod.fst q
          have h3 := wInv_fin hI hn b1 b2 e.2
          simp only [wFar] at this
          omega
        subst ex
        simp only [if_true]
        rw [if_pos ⟨a2, hnf⟩]
        unfold ky
        simp only []
        omega
      · simp only [if_neg ex]
        exact hE x x1 x2
    · rw [if_neg e, ha] at c
      split at c
      · next q => have := wInv_sm hI hn a1 a2 q.2; omega
      · omega
theorem lA_mr5 {r : Int} {Vs : wV} (hn0 : 0 ≤ h 96 0) (hn : h 96 0 ≤ 10) (hw : wOk (h 96 0) (eB h) (h 98)) {a : Int} (a1 : 0 ≤ a) (a2 : a < h 96 0) :
    ∀ (m : Nat) (b : Int) (V : wV) (bt : Int) (h' : mmH), b + m = h 96 0 → 0 ≤ b → rsI h V h' → (bt = 0 → V = Vs) →
      (∀ bt' h'' w, (bt' = 0 → upI (fun b V => rx (eB h) (h 98) a b V) m b V = Vs) → rsI h (upI (fun b V => rx (eB h) (h 98) a b V) m b V) h'' → qB tFA (d + 1) k_Walk_measureRest (h 0 0) (h 0 1) Q 4 [(3, 96), (1, bt'), (1, r), (1, a + 1), w] [] h'') →
      qB tFA (d + 1) k_Walk_measureRest (h 0 0) (h 0 1) Q 5 [(3, 96), (1, bt), (1, r), (1, a), (1, b)] [] h'
  | 0, b, V, bt, h', hb, hb0, hR, hbt, hy => by
    refine TA_Walk_measureRest_5 _ _ _ _ _ _ _ _ _ ⟨fun _ => ?_, fun c => absurd (by rw [hR.1 96 0 (by omega)]; omega) c⟩
    rw [mAdd_ok (a := a) (by omega) (by omega)]
    exact hy bt h' _ hbt hR
  | m + 1, b, V, bt, h', hb, hb0, hR, hbt, hy => by
    obtain ⟨s1, s2⟩ := rs_stepA hn0 hn hw hR a1 a2 hb0 (by omega)
    refine TA_Walk_measureRest_5 _ _ _ _ _ _ _ _ _ ⟨fun c => absurd c (by rw [hR.1 96 0 (by omega)]; omega), fun _ => pA_restBy hn hw hR a1 a2 hb0 (by omega) (mmD_of (by omega) ?_)⟩
    rw [mAdd_ok (a := b) (by omega) (by omega)]
    refine ⟨fun c => ?_, fun c => pA_restBy hn hw hR a1 a2 hb0 (by omega) (mmD_of (by omega) ?_)⟩
    · refine lA_mr5 hn0 hn hw a1 a2 m (b + 1) V bt h' (by omega) (by omega) hR hbt (fun bt' h'' w q1 q2 => ?_)
      have e : upI (fun b V => rx (eB h) (h 98) a b V) (m + 1) b V = upI (fun b V => rx (eB h) (h 98) a b V) m (b + 1) V := by
        show upI _ m (b + 1) (rx (eB h) (h 98) a b V) = _
        rw [s1 c]
      exact hy bt' h'' w (by rw [e]; exact q1) (by rw [e]; exact q2)
    · exact lA_mr5 hn0 hn hw a1 a2 m (b + 1) _ 1 _ (by omega) (by omega) (s2 c) (fun q => absurd q (by omega)) hy
theorem lA_mr4 {r : Int} {Vs : wV} (hn0 : 0 ≤ h 96 0) (hn : h 96 0 ≤ 10) (hw : wOk (h 96 0) (eB h) (h 98)) (hr : 0 ≤ r ∧ r < 10) :
    ∀ (m : Nat) (a : Int) (V : wV) (bt : Int) (h' : mmH) (w4 : mmV), a + m = h 96 0 → 0 ≤ a → rsI h V h' → (bt = 0 → V = Vs) →
      (∀ bt' h'' w w', (bt' = 0 → upI (fun a V => rxRow (h 96 0) (eB h) (h 98) a V) m a V = Vs) → rsI h (upI (fun a V => rxRow (h 96 0) (eB h) (h 98) a V) m a V) h'' → qB tFA (d + 1) k_Walk_measureRest (h 0 0) (h 0 1) Q 3 [(3, 96), (1, bt'), (1, r + 1), w, w'] [] h'') →
      qB tFA (d + 1) k_Walk_measureRest (h 0 0) (h 0 1) Q 4 [(3, 96), (1, bt), (1, r), (1, a), w4] [] h'
  | 0, a, V, bt, h', w4, ha, ha0, hR, hbt, hy => by
    refine TA_Walk_measureRest_4 _ _ _ _ _ _ _ _ _ ⟨fun _ => ?_, fun c => absurd (by rw [hR.1 96 0 (by omega)]; omega) c⟩
    rw [mAdd_ok (a := r) (by omega) (by omega)]
    exact hy bt h' _ _ hbt hR
  | m + 1, a, V, bt, h', w4, ha, ha0, hR, hbt, hy => by
    refine TA_Walk_measureRest_4 _ _ _ _ _ _ _ _ _ ⟨fun c => absurd c (by rw [hR.1 96 0 (by omega)]; omega), fun _ => ?_⟩
    refine lA_mr5 (r := r) (Vs := Vs) hn0 hn hw ha0 (by omega) (h 96 0).toNat 0 V bt h' (by omega) (Int.le_refl _) hR hbt (fun bt' h'' w q1 q2 => ?_)
    have e : upI (fun b V => rx (eB h) (h 98) a b V) (h 96 0).toNat 0 V = rxRow (h 96 0) (eB h) (h 98) a V := by
      unfold rxRow upTo
      rw [show h 96 0 - 0 = h 96 0 by omega]
    rw [e] at q1 q2
    exact lA_mr4 hn0 hn hw hr m (a + 1) _ bt' h'' w (by omega) (by omega) q2 q1 hy
theorem lA_mr3 (hn0 : 0 ≤ h 96 0) (hn : h 96 0 ≤ 10) (hw : wOk (h 96 0) (eB h) (h 98)) (hl1 : 0 ≤ h 96 2) (hl2 : h 96 2 < h 96 0) (hy : ∀ h'', rsI h (dis (h 96 0) (eB h) (h 98) (h 96 2)) h'' → Q 0 h'') :
    ∀ (m : Nat) (r : Int) (bt : Int) (h' : mmH) (w3 w4 : mmV), r + m = 10 → 0 ≤ r → rsI h (rxs (h 96 0) (eB h) (h 98) r.toNat (wV0 (h 96 2))) h' →
      (bt = 0 → rxRnd (h 96 0) (eB h) (h 98) (rxs (h 96 0) (eB h) (h 98) r.toNat (wV0 (h 96 2))) = rxs (h 96 0) (eB h) (h 98) r.toNat (wV0 (h 96 2))) →
      qB tFA (d + 1) k_Walk_measureRest (h 0 0) (h 0 1) Q 3 [(3, 96), (1, bt), (1, r), w3, w4] [] h'
  | 0, r, bt, h', w3, w4, hr, hr0, hR, hbt => by
    refine TA_Walk_measureRest_3 _ _ _ _ _ _ _ _ _ ⟨fun _ => hy h' ?_, fun c => absurd (by omega) c⟩
    rw [← rxs_rest hn hw hl1 hl2 (k := r.toNat) (Or.inr (by omega))]
    exact hR
  | m + 1, r, bt, h', w3, w4, hr, hr0, hR, hbt => by
    refine TA_Walk_measureRest_3 _ _ _ _ _ _ _ _ _ ⟨fun c => absurd c (by omega), fun _ => ⟨fun c => hy h' ?_, fun c => ?_⟩⟩
    · rw [← rxs_rest hn hw hl1 hl2 (k := r.toNat) (Or.inl (hbt c))]
      exact hR
    · refine lA_mr4 (Vs := rxs (h 96 0) (eB h) (h 98) r.toNat (wV0 (h 96 2))) hn0 hn hw ⟨hr0, by omega⟩ (h 96 0).toNat 0 _ 0 h' _ (by omega) (Int.le_refl _) hR (fun _ => rfl) (fun bt' h'' w w' q1 q2 => ?_)
      have e : upI (fun a V => rxRow (h 96 0) (eB h) (h 98) a V) (h 96 0).toNat 0 (rxs (h 96 0) (eB h) (h 98) r.toNat (wV0 (h 96 2))) = rxs (h 96 0) (eB h) (h 98) (r + 1).toNat (wV0 (h 96 2)) := by
        rw [show (r + 1).toNat = r.toNat + 1 by omega, rxs_succ]
        unfold rxRnd upTo
        rw [show h 96 0 - 0 = h 96 0 by omega]
      rw [e] at q1 q2
      refine lA_mr3 hn0 hn hw hl1 hl2 hy m (r + 1) bt' h'' w w' (by omega) (by omega) q2 (fun z => ?_)
      have e2 : rxs (h 96 0) (eB h) (h 98) (r + 1).toNat (wV0 (h 96 2)) = rxRnd (h 96 0) (eB h) (h 98) (rxs (h 96 0) (eB h) (h 98) r.toNat (wV0 (h 96 2))) := by
        rw [show (r + 1).toNat = r.toNat + 1 by omega, rxs_succ]
      have q := q1 z
      rw [q, ← e2, q]
theorem pA_measureRest (hn0 : 0 ≤ h 96 0) (hn : h 96 0 ≤ 10) (hw : wOk (h 96 0) (eB h) (h 98)) (hl1 : 0 ≤ h 96 2) (hl2 : h 96 2 < h 96 0) (hy : ∀ h'', rsI h (dis (h 96 0) (eB h) (h 98) (h 96 2)) h'' → Q 0 h'') : qC tFA (d + 2) k_Walk_measureRest [96] h Q := by
  refine qC_intro (TA_Walk_measureRest_0 _ _ _ _ _ ?_)
  have key : ∀ (m : Nat) (i : Int) (h' : mmH), i + m = 10 → 0 ≤ i → Fr (fun k _ => k = 100) h h' → (∀ x, 0 ≤ x → x < i → h' 100 x = 1000000000) → qB tFA (d + 1) k_Walk_measureRest (h 0 0) (h 0 1) Q 1 [(3, 96), (1, i), (0, 0), (0, 0), (0, 0)] [] h' := by
    intro m
    induction m with
    | zero =>
      intro i h' hi i0 hF hx
      refine TA_Walk_measureRest_1 _ _ _ _ _ _ ⟨fun _ => ?_, fun c => absurd (by omega) c⟩
      rw [hF 96 2 (by omega)]
      refine mmD_of (by omega) ?_
      have hR : rsI h (wV0 (h 96 2)) (mmS h' 100 (h 96 2) 0) := by
        refine ⟨hF.put rfl, fun x x1 x2 => ?_, wV0_inv hl1 hl2⟩
        rw [mmS_slot]
        by_cases ex : x = h 96 2
        · rw [if_pos ex]
          subst ex
          simp [wV0, wFar, hl2, ky]
        · rw [if_neg ex, hx x x1 (by omega)]
          simp [wV0, ex]
      exact lA_mr3 hn0 hn hw hl1 hl2 hy 10 0 1 _ (0, 0) (0, 0) (by omega) (Int.le_refl _) hR (fun q => absurd q (by omega))
    | succ m ih =>
      intro i h' hi i0 hF hx
      refine TA_Walk_measureRest_1 _ _ _ _ _ _ ⟨fun c => absurd c (by omega), fun _ => mmD_of (by omega) ?_⟩
      rw [mAdd_ok (a := i) (by omega) (by omega)]
      refine ih (i + 1) _ (by omega) (by omega) (hF.put rfl) (fun x x1 x2 => ?_)
      rw [mmS_slot]
      by_cases ex : x = i
      · rw [if_pos ex]
      · rw [if_neg ex]; exact hx x x1 (by omega)
  exact key 10 0 h (by omega) (Int.le_refl _) Fr.rf (fun x x1 x2 => absurd x2 (by omega))
end REA
section REB
variable {d : Nat} {h : mmH} {Q : Int → mmH → Prop}
theorem pB_restBy {V : wV} {h' : mmH} {a b : Int} (hn : h 96 0 ≤ 10) (hw : wOk (h 96 0) (eB h) (h 98)) (hR : rsI h V h') (a1 : 0 ≤ a) (a2 : a < h 96 0) (b1 : 0 ≤ b) (b2 : b < h 96 0)
    (hy : Q (if eB h a b = true ∧ V b ≠ wFar then ky (V b) + 16 * h 98 b + 1 else 1000000000) h') : qC tFB (d + 1) k_Walk_restBy [96, a, b] h' Q := by
  obtain ⟨hF, hE, hI⟩ := hR
  refine qC_intro (TB_Walk_restBy_0 _ _ _ _ _ _ _ (mmD_of (by omega) ?_))
  rw [hF 97 a (by omega), hF 96 3 (by omega), hF 98 b (by omega), eB_and ⟨b1, by omega⟩, hE b b1 (by omega)]
  refine ⟨fun c => ?_, fun c => mmD_of (by omega) ⟨fun c2 => mmD_of (by omega) (mmD_of (by omega) ?_), fun c2 => ?_⟩⟩
  · have : ¬ (eB h a b = true) := fun q => by rw [q] at c; simp at c
    rw [if_neg (fun q => this q.1)] at hy
    exact hy
  · have e : eB h a b = true := by
      cases q : eB h a b with
      | true => rfl
      | false => rw [q] at c; simp at c
    by_cases hf : V b = wFar
    · rw [if_neg (fun q => q.2 hf)] at c2
      omega
    · rw [if_pos ⟨b2, hf⟩]
      rw [if_pos ⟨e, hf⟩] at hy
      have h1 := wInv_sm hI hn b1 b2 hf
      have h2 := hw a b a1 a2 b1 b2 e
      rw [mMul_ok (by omega) (by omega), mAdd_ok (a := ky (V b)) (by omega) (by omega), mAdd_ok (by omega) (by omega), Int.mul_comm (h 98 b) 16]
      exact hy
  · have hf : V b = wFar := by
      by_cases q : V b = wFar
      · exact q
      · rw [if_pos ⟨b2, q⟩] at c2
        have h1 := wInv_sm hI hn b1 b2 q
        omega
    rw [if_neg (fun q => q.2 hf)] at hy
    exact hy
/-- one try to shorten, in the row -/
theorem rs_stepB {V : wV} {h' : mmH} {a b : Int} (hn0 : 0 ≤ h 96 0) (hn : h 96 0 ≤ 10) (hw : wOk (h 96 0) (eB h) (h 98)) (hR : rsI h V h') (a1 : 0 ≤ a) (a2 : a < h 96 0) (b1 : 0 ≤ b) (b2 : b < h 96 0) :
    (h' 100 a ≤ (if eB h a b = true ∧ V b ≠ wFar then ky (V b) + 16 * h 98 b + 1 else 1000000000) → rx (eB h) (h 98) a b V = V) ∧
    (¬ (h' 100 a ≤ (if eB h a b = true ∧ V b ≠ wFar then ky (V b) + 16 * h 98 b + 1 else 1000000000)) → rsI h (rx (eB h) (h 98) a b V) (mmS h' 100 a (if eB h a b = true ∧ V b ≠ wFar then ky (V b) + 16 * h 98 b + 1 else 1000000000))) := by
  obtain ⟨hF, hE, hI⟩ := hR
  have ha := hE a a1 (by omega)
  constructor
  · intro c
    refine rx_neg (fun q => ?_)
    obtain ⟨q1, q2, q3⟩ := q
    have hf : V b ≠ wFar := fun z => q2 (by rw [z]; rfl)
    have h1 := wInv_sm hI hn b1 b2 hf
    have h2 := hw a b a1 a2 b1 b2 q1
    rw [if_pos ⟨q1, hf⟩, ha] at c
    by_cases hfa : V a = wFar
    · rw [if_neg (fun q => q.2 hfa)] at c
      omega
    · rw [if_pos ⟨a2, hfa⟩] at c
      omega
  · intro c
    by_cases e : eB h a b = true ∧ V b ≠ wFar
    · rw [if_pos e] at c ⊢
      have h1 := wInv_sm hI hn b1 b2 e.2
      have h2 := hw a b a1 a2 b1 b2 e.1
      have hc : rxc (eB h) (h 98) a b V := by
        refine ⟨e.1, fun q => e.2 ((wFar_iff hI hn b1 b2).mp q), ?_⟩
        by_cases hfa : V a = wFar
        · rw [hfa, ky_far]
          omega
        · rw [ha, if_pos ⟨a2, hfa⟩] at c
          omega
      have hI2 := rx_inv hn (fun x x1 x2 => hw a x a1 a2 x1 x2) hI a1 a2 b1 b2
      refine ⟨hF.put rfl, fun x x1 x2 => ?_, hI2⟩
      rw [rx_pos hc, mmS_slot]
      by_cases ex : x = a
      · have hnf : ((V b).1 + h 98 b, (V b).2 + 1) ≠ wFar := by
          intro q
          have := congrArg Prod.fst q
          have h3 := wInv_fin hI hn b1 b2 e.2
          simp only [wFar] at this
          omega
        subst ex
        simp only [if_true]
        rw [if_pos ⟨a2, hnf⟩]
        unfold ky
        simp only []
        omega
      · simp only [if_neg ex]
        exact hE x x1 x2
    · rw [if_neg e, ha] at c
      split at c
      · next q => have := wInv_sm hI hn a1 a2 q.2; omega
      · omega
theorem lB_mr5 {r : Int} {Vs : wV} (hn0 : 0 ≤ h 96 0) (hn : h 96 0 ≤ 10) (hw : wOk (h 96 0) (eB h) (h 98)) {a : Int} (a1 : 0 ≤ a) (a2 : a < h 96 0) :
    ∀ (m : Nat) (b : Int) (V : wV) (bt : Int) (h' : mmH), b + m = h 96 0 → 0 ≤ b → rsI h V h' → (bt = 0 → V = Vs) →
      (∀ bt' h'' w, (bt' = 0 → upI (fun b V => rx (eB h) (h 98) a b V) m b V = Vs) → rsI h (upI (fun b V => rx (eB h) (h 98) a b V) m b V) h'' → qB tFB (d + 1) k_Walk_measureRest (h 0 0) (h 0 1) Q 4 [(3, 96), (1, bt'), (1, r), (1, a + 1), w] [] h'') →
      qB tFB (d + 1) k_Walk_measureRest (h 0 0) (h 0 1) Q 5 [(3, 96), (1, bt), (1, r), (1, a), (1, b)] [] h'
  | 0, b, V, bt, h', hb, hb0, hR, hbt, hy => by
    refine TB_Walk_measureRest_5 _ _ _ _ _ _ _ _ _ ⟨fun _ => ?_, fun c => absurd (by rw [hR.1 96 0 (by omega)]; omega) c⟩
    rw [mAdd_ok (a := a) (by omega) (by omega)]
    exact hy bt h' _ hbt hR
  | m + 1, b, V, bt, h', hb, hb0, hR, hbt, hy => by
    obtain ⟨s1, s2⟩ := rs_stepB hn0 hn hw hR a1 a2 hb0 (by omega)
    refine TB_Walk_measureRest_5 _ _ _ _ _ _ _ _ _ ⟨fun c => absurd c (by rw [hR.1 96 0 (by omega)]; omega), fun _ => pB_restBy hn hw hR a1 a2 hb0 (by omega) (mmD_of (by omega) ?_)⟩
    rw [mAdd_ok (a := b) (by omega) (by omega)]
    refine ⟨fun c => ?_, fun c => pB_restBy hn hw hR a1 a2 hb0 (by omega) (mmD_of (by omega) ?_)⟩
    · refine lB_mr5 hn0 hn hw a1 a2 m (b + 1) V bt h' (by omega) (by omega) hR hbt (fun bt' h'' w q1 q2 => ?_)
      have e : upI (fun b V => rx (eB h) (h 98) a b V) (m + 1) b V = upI (fun b V => rx (eB h) (h 98) a b V) m (b + 1) V := by
        show upI _ m (b + 1) (rx (eB h) (h 98) a b V) = _
        rw [s1 c]
      exact hy bt' h'' w (by rw [e]; exact q1) (by rw [e]; exact q2)
    · exact lB_mr5 hn0 hn hw a1 a2 m (b + 1) _ 1 _ (by omega) (by omega) (s2 c) (fun q => absurd q (by omega)) hy
theorem lB_mr4 {r : Int} {Vs : wV} (hn0 : 0 ≤ h 96 0) (hn : h 96 0 ≤ 10) (hw : wOk (h 96 0) (eB h) (h 98)) (hr : 0 ≤ r ∧ r < 10) :
    ∀ (m : Nat) (a : Int) (V : wV) (bt : Int) (h' : mmH) (w4 : mmV), a + m = h 96 0 → 0 ≤ a → rsI h V h' → (bt = 0 → V = Vs) →
      (∀ bt' h'' w w', (bt' = 0 → upI (fun a V => rxRow (h 96 0) (eB h) (h 98) a V) m a V = Vs) → rsI h (upI (fun a V => rxRow (h 96 0) (eB h) (h 98) a V) m a V) h'' → qB tFB (d + 1) k_Walk_measureRest (h 0 0) (h 0 1) Q 3 [(3, 96), (1, bt'), (1, r + 1), w, w'] [] h'') →
      qB tFB (d + 1) k_Walk_measureRest (h 0 0) (h 0 1) Q 4 [(3, 96), (1, bt), (1, r), (1, a), w4] [] h'
  | 0, a, V, bt, h', w4, ha, ha0, hR, hbt, hy => by
    refine TB_Walk_measureRest_4 _ _ _ _ _ _ _ _ _ ⟨fun _ => ?_, fun c => absurd (by rw [hR.1 96 0 (by omega)]; omega) c⟩
    rw [mAdd_ok (a := r) (by omega) (by omega)]
    exact hy bt h' _ _ hbt hR
  | m + 1, a, V, bt, h', w4, ha, ha0, hR, hbt, hy => by
    refine TB_Walk_measureRest_4 _ _ _ _ _ _ _ _ _ ⟨fun c => absurd c (by rw [hR.1 96 0 (by omega)]; omega), fun _ => ?_⟩
    refine lB_mr5 (r := r) (Vs := Vs) hn0 hn hw ha0 (by omega) (h 96 0).toNat 0 V bt h' (by omega) (Int.le_refl _) hR hbt (fun bt' h'' w q1 q2 => ?_)
    have e : upI (fun b V => rx (eB h) (h 98) a b V) (h 96 0).toNat 0 V = rxRow (h 96 0) (eB h) (h 98) a V := by
      unfold rxRow upTo
      rw [show h 96 0 - 0 = h 96 0 by omega]
    rw [e] at q1 q2
    exact lB_mr4 hn0 hn hw hr m (a + 1) _ bt' h'' w (by omega) (by omega) q2 q1 hy
theorem lB_mr3 (hn0 : 0 ≤ h 96 0) (hn : h 96 0 ≤ 10) (hw : wOk (h 96 0) (eB h) (h 98)) (hl1 : 0 ≤ h 96 2) (hl2 : h 96 2 < h 96 0) (hy : ∀ h'', rsI h (dis (h 96 0) (eB h) (h 98) (h 96 2)) h'' → Q 0 h'') :
    ∀ (m : Nat) (r : Int) (bt : Int) (h' : mmH) (w3 w4 : mmV), r + m = 10 → 0 ≤ r → rsI h (rxs (h 96 0) (eB h) (h 98) r.toNat (wV0 (h 96 2))) h' →
      (bt = 0 → rxRnd (h 96 0) (eB h) (h 98) (rxs (h 96 0) (eB h) (h 98) r.toNat (wV0 (h 96 2))) = rxs (h 96 0) (eB h) (h 98) r.toNat (wV0 (h 96 2))) →
      qB tFB (d + 1) k_Walk_measureRest (h 0 0) (h 0 1) Q 3 [(3, 96), (1, bt), (1, r), w3, w4] [] h'
  | 0, r, bt, h', w3, w4, hr, hr0, hR, hbt => by
    refine TB_Walk_measureRest_3 _ _ _ _ _ _ _ _ _ ⟨fun _ => hy h' ?_, fun c => absurd (by omega) c⟩
    rw [← rxs_rest hn hw hl1 hl2 (k := r.toNat) (Or.inr (by omega))]
    exact hR
  | m + 1, r, bt, h', w3, w4, hr, hr0, hR, hbt => by
    refine TB_Walk_measureRest_3 _ _ _ _ _ _ _ _ _ ⟨fun c => absurd c (by omega), fun _ => ⟨fun c => hy h' ?_, fun c => ?_⟩⟩
    · rw [← rxs_rest hn hw hl1 hl2 (k := r.toNat) (Or.inl (hbt c))]
      exact hR
    · refine lB_mr4 (Vs := rxs (h 96 0) (eB h) (h 98) r.toNat (wV0 (h 96 2))) hn0 hn hw ⟨hr0, by omega⟩ (h 96 0).toNat 0 _ 0 h' _ (by omega) (Int.le_refl _) hR (fun _ => rfl) (fun bt' h'' w w' q1 q2 => ?_)
      have e : upI (fun a V => rxRow (h 96 0) (eB h) (h 98) a V) (h 96 0).toNat 0 (rxs (h 96 0) (eB h) (h 98) r.toNat (wV0 (h 96 2))) = rxs (h 96 0) (eB h) (h 98) (r + 1).toNat (wV0 (h 96 2)) := by
        rw [show (r + 1).toNat = r.toNat + 1 by omega, rxs_succ]
        unfold rxRnd upTo
        rw [show h 96 0 - 0 = h 96 0 by omega]
      rw [e] at q1 q2
      refine lB_mr3 hn0 hn hw hl1 hl2 hy m (r + 1) bt' h'' w w' (by omega) (by omega) q2 (fun z => ?_)
      have e2 : rxs (h 96 0) (eB h) (h 98) (r + 1).toNat (wV0 (h 96 2)) = rxRnd (h 96 0) (eB h) (h 98) (rxs (h 96 0) (eB h) (h 98) r.toNat (wV0 (h 96 2))) := by
        rw [show (r + 1).toNat = r.toNat + 1 by omega, rxs_succ]
      have q := q1 z
      rw [q, ← e2, q]
theorem pB_measureRest (hn0 : 0 ≤ h 96 0) (hn : h 96 0 ≤ 10) (hw : wOk (h 96 0) (eB h) (h 98)) (hl1 : 0 ≤ h 96 2) (hl2 : h 96 2 < h 96 0) (hy : ∀ h'', rsI h (dis (h 96 0) (eB h) (h 98) (h 96 2)) h'' → Q 0 h'') : qC tFB (d + 2) k_Walk_measureRest [96] h Q := by
  refine qC_intro (TB_Walk_measureRest_0 _ _ _ _ _ ?_)
  have key : ∀ (m : Nat) (i : Int) (h' : mmH), i + m = 10 → 0 ≤ i → Fr (fun k _ => k = 100) h h' → (∀ x, 0 ≤ x → x < i → h' 100 x = 1000000000) → qB tFB (d + 1) k_Walk_measureRest (h 0 0) (h 0 1) Q 1 [(3, 96), (1, i), (0, 0), (0, 0), (0, 0)] [] h' := by
    intro m
    induction m with
    | zero =>
      intro i h' hi i0 hF hx
      refine TB_Walk_measureRest_1 _ _ _ _ _ _ ⟨fun _ => ?_, fun c => absurd (by omega) c⟩
      rw [hF 96 2 (by omega)]
      refine mmD_of (by omega) ?_
      have hR : rsI h (wV0 (h 96 2)) (mmS h' 100 (h 96 2) 0) := by
        refine ⟨hF.put rfl, fun x x1 x2 => ?_, wV0_inv hl1 hl2⟩
        rw [mmS_slot]
        by_cases ex : x = h 96 2
        · rw [if_pos ex]
          subst ex
          simp [wV0, wFar, hl2, ky]
        · rw [if_neg ex, hx x x1 (by omega)]
          simp [wV0, ex]
      exact lB_mr3 hn0 hn hw hl1 hl2 hy 10 0 1 _ (0, 0) (0, 0) (by omega) (Int.le_refl _) hR (fun q => absurd q (by omega))
    | succ m ih =>
      intro i h' hi i0 hF hx
      refine TB_Walk_measureRest_1 _ _ _ _ _ _ ⟨fun c => absurd c (by omega), fun _ => mmD_of (by omega) ?_⟩
      rw [mAdd_ok (a := i) (by omega) (by omega)]
      refine ih (i + 1) _ (by omega) (by omega) (hF.put rfl) (fun x x1 x2 => ?_)
      rw [mmS_slot]
      by_cases ex : x = i
      · rw [if_pos ex]
      · rw [if_neg ex]; exact hx x x1 (by omega)
  exact key 10 0 h (by omega) (Int.le_refl _) Fr.rf (fun x x1 x2 => absurd x2 (by omega))
end REB
