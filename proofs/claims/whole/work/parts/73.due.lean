/-! ===== mm: which toll is due ===== -/
/-- the first toll's number among laws from k on; -5 where a bar holds; first: what was found ahead (-1 none) -/
def dueR (own bar : Int → Bool) (tst : Int → Int) : Nat → Int → Int → Int
  | 0, _, first => first
  | n + 1, k, first => if own k = true ∧ (bar k = true ∨ first = -1) ∧ tst k ≠ 0 then (if bar k = true then -5 else dueR own bar tst n (k + 1) k) else dueR own bar tst n (k + 1) first
theorem dueR_succ (own bar : Int → Bool) (tst : Int → Int) (n : Nat) (k first : Int) : dueR own bar tst (n + 1) k first = if own k = true ∧ (bar k = true ∨ first = -1) ∧ tst k ≠ 0 then (if bar k = true then -5 else dueR own bar tst n (k + 1) k) else dueR own bar tst n (k + 1) first := rfl
def c999 (v : Int) : Int := if v < 0 then 0 else if 999 < v then 999 else v
def dueV (sm : Int → Int) (r : Int) : Int := if r = -5 then -1 else if r = -1 then 0 else c999 (sm r)
theorem c999_ok (v : Int) : 0 ≤ c999 v ∧ c999 v ≤ 999 := by unfold c999; (repeat' split) <;> omega
theorem dueV_ok (sm : Int → Int) (r : Int) : dueV sm r = -1 ∨ (0 ≤ dueV sm r ∧ dueV sm r ≤ 999) := by
  unfold dueV
  have := c999_ok (sm r)
  (repeat' split) <;> omega
/-- a test's, a sum's worth among the tokens of the town u -/
def tstV (u : Int) (h : mmH) (e : Int → Int) (k : Int) : Int := (evR e (h (u + 38)) (h (u + 37) k - h (u + 36) k).toNat (h (u + 36) k) []).headD 0
def smV (u : Int) (h : mmH) (e : Int → Int) (k : Int) : Int := (evR e (h (u + 38)) (h (u + 36) k - h (u + 35) k).toNat (h (u + 35) k) []).headD 0
/-- the toll of an owner, by what the facts' words stand for -/
def tollE (u : Int) (h : mmH) (e : Int → Int) (own : Int) : Int :=
  dueV (smV u h e) (dueR (fun k => decide (h (u + 34) k = own)) (fun k => decide (h (u + 35) k = h (u + 36) k)) (tstV u h e) (h (u + 33) 0).toNat 0 (-1))
def envF (wt hl ht tl ng : Int) : Int → Int := fun i => if i = 0 then wt else if i = 1 then hl else if i = 2 then ht else if i = 3 then tl else ng
/-- the toll of a lot with t tiles for a person; -1 where he is barred -/
def tollC (u : Int) (h : mmH) (p l t : Int) : Int :=
  if 0 < h 86 1 then 0 else tollE u h (envF (h (u + 16 + p) 0) (h (u + 16 + p) 3) (h (u + 5 + l) 1) t (h 86 0)) (h (u + 5 + l) 0)
theorem tollC_ok (u : Int) (h : mmH) (p l t : Int) : tollC u h p l t = -1 ∨ (0 ≤ tollC u h p l t ∧ tollC u h p l t ≤ 999) := by
  unfold tollC
  split
  · omega
  · exact dueV_ok _ _
theorem tst01 {u k : Int} {h : mmH} {e : Int → Int} (he : envOk e) (hc : chkR (h (u + 38)) (h (u + 37) k - h (u + 36) k).toNat (h (u + 36) k) [] = some [true]) : tstV u h e k = 0 ∨ tstV u h e k = 1 := by
  have := evR_ok he _ _ _ _ [] hc trivial
  obtain ⟨v, hv, hk⟩ := sk1 this
  unfold tstV
  rw [hv]
  exact hk
/-- what one side's looking at tolls writes -/
def Sct (u k i : Int) : Prop := k = u + 39 ∨ (k = u + 33 ∧ 8 ≤ i ∧ i ≤ 12)
section DUA
variable {d : Nat} {h : mmH} {Q : Int → mmH → Prop}
theorem lA_due {own : Int} {e : Int → Int} {m0 : mmH} (he : envOk e) (hL : cLaw 5 1 h m0) (henv : envC 38 h e) (h0 : 0 ≤ h 38 0) (h8 : h 38 0 ≤ 8)
    (hy : ∀ h', Fr (fun k _ => k = 44) h h' → Q (tollE 5 h e own) h') :
    ∀ (n : Nat) (k first : Int) (h' : mmH) (w4 : mmV), k + n = h 38 0 → 0 ≤ k → (first = -1 ∨ (0 ≤ first ∧ first < k ∧ h 40 first ≠ h 41 first)) → Fr (fun k _ => k = 44) h h' →
      dueR (fun k => decide (h 39 k = own)) (fun k => decide (h 40 k = h 41 k)) (tstV 5 h e) n k first = dueR (fun k => decide (h 39 k = own)) (fun k => decide (h 40 k = h 41 k)) (tstV 5 h e) (h 38 0).toNat 0 (-1) →
      qB tFA (d + 2) k_Laws_due (h 0 0) (h 0 1) Q 1 [(3, 38), (1, own), (1, first), (1, k), w4] [] h'
  | 0, k, first, h', w4, hk, hk0, hf, hF, hr => by
    have e43 : h' 43 = h 43 := funext fun j => hF _ _ (by omega)
    have henv' : envC 38 h' e := ⟨by rw [hF _ _ (by omega)]; exact henv.1, by rw [hF _ _ (by omega)]; exact henv.2.1, by rw [hF _ _ (by omega)]; exact henv.2.2.1, by rw [hF _ _ (by omega)]; exact henv.2.2.2.1, by rw [hF _ _ (by omega)]; exact henv.2.2.2.2⟩
    unfold tollE at hy
    simp only [Int.reduceAdd] at hy
    rw [← hr] at hy
    unfold dueR dueV at hy
    refine TA38_Laws_due_1 _ _ _ _ _ _ _ _ _ ⟨fun _ => ⟨fun c => ?_, fun c => ?_⟩, fun c => absurd (by rw [hF 38 0 (by omega)]; omega) c⟩
    · obtain ⟨f1, f2, f3⟩ := hf.resolve_left c
      have hLk := hL first f1 (show first < h 38 0 by omega)
      simp only [Int.reduceAdd, Int.reduceMul] at hLk
      obtain ⟨_, _, _, _, _, _, ⟨b1, b2, b3, b4⟩, hct, hcs, _⟩ := hLk
      rw [hF 40 first (by omega), hF 41 first (by omega)]
      refine mmD_of (by omega) (mmD_of (by omega) (pA_valueOf b1 b2 (by omega) he henv' (kk := false) ?_ (fun h2 f2' => ?_)))
      · show chkR (h' 43) _ _ _ = _
        rw [e43]
        exact hcs.resolve_left f3
      · have := hy h2 (hF.tr f2')
        rw [if_neg (by omega), if_neg c] at this
        unfold smV at this
        simp only [Int.reduceAdd] at this
        rw [show mMax 0 (mMin 999 ((evR e (fun j => h' 43 j) (h 41 first - h 40 first).toNat (h 40 first) []).headD 0)) = c999 ((evR e (h 43) (h 41 first - h 40 first).toNat (h 40 first) []).headD 0) from ?_]
        · exact this
        · show mMax 0 (mMin 999 ((evR e (h' 43) _ _ []).headD 0)) = _
          rw [e43]
          generalize (evR e (h 43) (h 41 first - h 40 first).toNat (h 40 first) []).headD 0 = z
          unfold mMax mMin c999
          (repeat' split) <;> omega
    · have c' := Decidable.of_not_not c
      have := hy h' hF
      rw [if_neg (by omega), if_pos c'] at this
      exact this
  | n + 1, k, first, h', w4, hk, hk0, hf, hF, hr => by
    have e43 : h' 43 = h 43 := funext fun j => hF _ _ (by omega)
    have henv' : envC 38 h' e := ⟨by rw [hF _ _ (by omega)]; exact henv.1, by rw [hF _ _ (by omega)]; exact henv.2.1, by rw [hF _ _ (by omega)]; exact henv.2.2.1, by rw [hF _ _ (by omega)]; exact henv.2.2.2.1, by rw [hF _ _ (by omega)]; exact henv.2.2.2.2⟩
    have hLk := hL k hk0 (show k < h 38 0 by omega)
    simp only [Int.reduceAdd, Int.reduceMul] at hLk
    obtain ⟨_, _, _, _, _, _, ⟨b1, b2, b3, b4⟩, hct, hcs, _⟩ := hLk
    rw [dueR_succ] at hr
    -- the next one, where this one doesn't count
    have skip1 : ∀ (h2 : mmH) (w : mmV), Fr (fun k _ => k = 44) h h2 → ¬ (h 39 k = own ∧ (h 40 k = h 41 k ∨ first = -1) ∧ tstV 5 h e k ≠ 0) → qB tFA (d + 2) k_Laws_due (h 0 0) (h 0 1) Q 1 [(3, 38), (1, own), (1, first), (1, k + 1), w] [] h2 := by
      intro h2 w f2 hn
      rw [if_neg (by simpa using hn)] at hr
      exact lA_due he hL henv h0 h8 hy n (k + 1) first h2 w (by omega) (by omega) (by omega) f2 hr
    have blk4 : ∀ s0 : Int, YN s0 (h 40 k = h 41 k) → h 39 k = own → (h 40 k = h 41 k ∨ first = -1) → qB tFA (d + 2) k_Laws_due (h 0 0) (h 0 1) Q 4 [(3, 38), (1, own), (1, first), (1, k), (1, s0)] [] h' := by
      intro s0 hs ho hb
      refine TA38_Laws_due_4 _ _ _ _ _ _ _ _ _ (mmD_of (by omega) (mmD_of (by omega) ?_))
      rw [hF 41 k (by omega), hF 42 k (by omega), mAdd_ok (a := k) (by omega) (by omega)]
      refine pA_valueOf (by omega) b3 b4 he henv' (kk := true) ?_ (fun h2 f2 => ?_)
      · show chkR (h' 43) _ _ _ = _
        rw [e43]
        exact hct
      · have hv : (evR e (fun j => h' 43 j) (h 42 k - h 41 k).toNat (h 41 k) []).headD 0 = tstV 5 h e k := by
          show (evR e (h' 43) _ _ []).headD 0 = _
          rw [e43]
          rfl
        rw [hv]
        refine ⟨fun c => skip1 h2 _ (hF.tr f2) (fun q => q.2.2 c), fun c => ⟨fun c2 => ?_, fun c2 => ?_⟩⟩
        · have hnb := hs.neg c2
          rw [if_pos (by simpa using ⟨ho, hb, c⟩), if_neg (by simpa using hnb)] at hr
          exact lA_due he hL henv h0 h8 hy n (k + 1) k h2 _ (by omega) (by omega) (Or.inr ⟨hk0, by omega, hnb⟩) (hF.tr f2) hr
        · have hb2 := hs.pos c2
          rw [if_pos (by simpa using ⟨ho, hb, c⟩), if_pos (by simpa using hb2)] at hr
          have := hy h2 (hF.tr f2)
          unfold tollE at this
          simp only [Int.reduceAdd] at this
          rw [← hr] at this
          exact this
    have blk3 : ∀ s0 : Int, YN s0 (h 40 k = h 41 k) → ∀ w, qB tFA (d + 2) k_Laws_due (h 0 0) (h 0 1) Q 3 [(3, 38), (1, own), (1, first), (1, k), w] [(1, s0)] h' := by
      intro s0 hs w
      refine TA38_Laws_due_3 _ _ _ _ _ _ _ _ _ _ (mmD_of (by omega) ?_)
      rw [hF 39 k (by omega), mAdd_ok (a := k) (by omega) (by omega)]
      refine ⟨fun c => skip1 h' _ hF (fun q => c q.1), fun c => ?_⟩
      have ho := Decidable.of_not_not c
      refine ⟨fun c2 => blk4 s0 hs ho (Or.inl (hs.pos c2)), fun c2 => ⟨fun c3 => skip1 h' _ hF (fun q => ?_), fun c3 => blk4 s0 hs ho (Or.inr (Decidable.of_not_not c3))⟩⟩
      rcases q.2.1 with q | q
      · exact hs.neg (Decidable.of_not_not c2) q
      · exact c3 q
    refine TA38_Laws_due_1 _ _ _ _ _ _ _ _ _ ⟨fun c => absurd c (by rw [hF 38 0 (by omega)]; omega), fun _ => mmD_of (by omega) (mmD_of (by omega) ?_)⟩
    rw [hF 40 k (by omega), hF 41 k (by omega)]
    exact ⟨fun c => blk3 0 (YN.no c) _, fun c => blk3 1 (YN.yes (Decidable.of_not_not c)) _⟩
theorem pA_due {own : Int} {e : Int → Int} {m0 : mmH} (he : envOk e) (hL : cLaw 5 1 h m0) (henv : envC 38 h e) (h0 : 0 ≤ h 38 0) (h8 : h 38 0 ≤ 8)
    (hy : ∀ h', Fr (fun k _ => k = 44) h h' → Q (tollE 5 h e own) h') : qC tFA (d + 3) k_Laws_due [38, own] h Q :=
  qC_intro (TA38_Laws_due_0 _ _ _ _ _ _ (lA_due he hL henv h0 h8 hy (h 38 0).toNat 0 (-1) h _ (by omega) (Int.le_refl _) (Or.inl rfl) Fr.rf rfl))
end DUA
section DUB
variable {d : Nat} {h : mmH} {Q : Int → mmH → Prop}
theorem lB_due {own : Int} {e : Int → Int} {m0 : mmH} (he : envOk e) (hL : cLaw 46 1 h m0) (henv : envC 79 h e) (h0 : 0 ≤ h 79 0) (h8 : h 79 0 ≤ 8)
    (hy : ∀ h', Fr (fun k _ => k = 85) h h' → Q (tollE 46 h e own) h') :
    ∀ (n : Nat) (k first : Int) (h' : mmH) (w4 : mmV), k + n = h 79 0 → 0 ≤ k → (first = -1 ∨ (0 ≤ first ∧ first < k ∧ h 81 first ≠ h 82 first)) → Fr (fun k _ => k = 85) h h' →
      dueR (fun k => decide (h 80 k = own)) (fun k => decide (h 81 k = h 82 k)) (tstV 46 h e) n k first = dueR (fun k => decide (h 80 k = own)) (fun k => decide (h 81 k = h 82 k)) (tstV 46 h e) (h 79 0).toNat 0 (-1) →
      qB tFB (d + 2) k_Laws_due (h 0 0) (h 0 1) Q 1 [(3, 79), (1, own), (1, first), (1, k), w4] [] h'
  | 0, k, first, h', w4, hk, hk0, hf, hF, hr => by
    have e43 : h' 84 = h 84 := funext fun j => hF _ _ (by omega)
    have henv' : envC 79 h' e := ⟨by rw [hF _ _ (by omega)]; exact henv.1, by rw [hF _ _ (by omega)]; exact henv.2.1, by rw [hF _ _ (by omega)]; exact henv.2.2.1, by rw [hF _ _ (by omega)]; exact henv.2.2.2.1, by rw [hF _ _ (by omega)]; exact henv.2.2.2.2⟩
    unfold tollE at hy
    simp only [Int.reduceAdd] at hy
    rw [← hr] at hy
    unfold dueR dueV at hy
    refine TB79_Laws_due_1 _ _ _ _ _ _ _ _ _ ⟨fun _ => ⟨fun c => ?_, fun c => ?_⟩, fun c => absurd (by rw [hF 79 0 (by omega)]; omega) c⟩
    · obtain ⟨f1, f2, f3⟩ := hf.resolve_left c
      have hLk := hL first f1 (show first < h 79 0 by omega)
      simp only [Int.reduceAdd, Int.reduceMul] at hLk
      obtain ⟨_, _, _, _, _, _, ⟨b1, b2, b3, b4⟩, hct, hcs, _⟩ := hLk
      rw [hF 81 first (by omega), hF 82 first (by omega)]
      refine mmD_of (by omega) (mmD_of (by omega) (pB_valueOf b1 b2 (by omega) he henv' (kk := false) ?_ (fun h2 f2' => ?_)))
      · show chkR (h' 84) _ _ _ = _
        rw [e43]
        exact hcs.resolve_left f3
      · have := hy h2 (hF.tr f2')
        rw [if_neg (by omega), if_neg c] at this
        unfold smV at this
        simp only [Int.reduceAdd] at this
        rw [show mMax 0 (mMin 999 ((evR e (fun j => h' 84 j) (h 82 first - h 81 first).toNat (h 81 first) []).headD 0)) = c999 ((evR e (h 84) (h 82 first - h 81 first).toNat (h 81 first) []).headD 0) from ?_]
        · exact this
        · show mMax 0 (mMin 999 ((evR e (h' 84) _ _ []).headD 0)) = _
          rw [e43]
          generalize (evR e (h 84) (h 82 first - h 81 first).toNat (h 81 first) []).headD 0 = z
          unfold mMax mMin c999
          (repeat' split) <;> omega
    · have c' := Decidable.of_not_not c
      have := hy h' hF
      rw [if_neg (by omega), if_pos c'] at this
      exact this
  | n + 1, k, first, h', w4, hk, hk0, hf, hF, hr => by
    have e43 : h' 84 = h 84 := funext fun j => hF _ _ (by omega)
    have henv' : envC 79 h' e := ⟨by rw [hF _ _ (by omega)]; exact henv.1, by rw [hF _ _ (by omega)]; exact henv.2.1, by rw [hF _ _ (by omega)]; exact henv.2.2.1, by rw [hF _ _ (by omega)]; exact henv.2.2.2.1, by rw [hF _ _ (by omega)]; exact henv.2.2.2.2⟩
    have hLk := hL k hk0 (show k < h 79 0 by omega)
    simp only [Int.reduceAdd, Int.reduceMul] at hLk
    obtain ⟨_, _, _, _, _, _, ⟨b1, b2, b3, b4⟩, hct, hcs, _⟩ := hLk
    rw [dueR_succ] at hr
    -- the next one, where this one doesn't count
    have skip1 : ∀ (h2 : mmH) (w : mmV), Fr (fun k _ => k = 85) h h2 → ¬ (h 80 k = own ∧ (h 81 k = h 82 k ∨ first = -1) ∧ tstV 46 h e k ≠ 0) → qB tFB (d + 2) k_Laws_due (h 0 0) (h 0 1) Q 1 [(3, 79), (1, own), (1, first), (1, k + 1), w] [] h2 := by
      intro h2 w f2 hn
      rw [if_neg (by simpa using hn)] at hr
      exact lB_due he hL henv h0 h8 hy n (k + 1) first h2 w (by omega) (by omega) (by omega) f2 hr
    have blk4 : ∀ s0 : Int, YN s0 (h 81 k = h 82 k) → h 80 k = own → (h 81 k = h 82 k ∨ first = -1) → qB tFB (d + 2) k_Laws_due (h 0 0) (h 0 1) Q 4 [(3, 79), (1, own), (1, first), (1, k), (1, s0)] [] h' := by
      intro s0 hs ho hb
      refine TB79_Laws_due_4 _ _ _ _ _ _ _ _ _ (mmD_of (by omega) (mmD_of (by omega) ?_))
      rw [hF 82 k (by omega), hF 83 k (by omega), mAdd_ok (a := k) (by omega) (by omega)]
      refine pB_valueOf (by omega) b3 b4 he henv' (kk := true) ?_ (fun h2 f2 => ?_)
      · show chkR (h' 84) _ _ _ = _
        rw [e43]
        exact hct
      · have hv : (evR e (fun j => h' 84 j) (h 83 k - h 82 k).toNat (h 82 k) []).headD 0 = tstV 46 h e k := by
          show (evR e (h' 84) _ _ []).headD 0 = _
          rw [e43]
          rfl
        rw [hv]
        refine ⟨fun c => skip1 h2 _ (hF.tr f2) (fun q => q.2.2 c), fun c => ⟨fun c2 => ?_, fun c2 => ?_⟩⟩
        · have hnb := hs.neg c2
          rw [if_pos (by simpa using ⟨ho, hb, c⟩), if_neg (by simpa using hnb)] at hr
          exact lB_due he hL henv h0 h8 hy n (k + 1) k h2 _ (by omega) (by omega) (Or.inr ⟨hk0, by omega, hnb⟩) (hF.tr f2) hr
        · have hb2 := hs.pos c2
          rw [if_pos (by simpa using ⟨ho, hb, c⟩), if_pos (by simpa using hb2)] at hr
          have := hy h2 (hF.tr f2)
          unfold tollE at this
          simp only [Int.reduceAdd] at this
          rw [← hr] at this
          exact this
    have blk3 : ∀ s0 : Int, YN s0 (h 81 k = h 82 k) → ∀ w, qB tFB (d + 2) k_Laws_due (h 0 0) (h 0 1) Q 3 [(3, 79), (1, own), (1, first), (1, k), w] [(1, s0)] h' := by
      intro s0 hs w
      refine TB79_Laws_due_3 _ _ _ _ _ _ _ _ _ _ (mmD_of (by omega) ?_)
      rw [hF 80 k (by omega), mAdd_ok (a := k) (by omega) (by omega)]
      refine ⟨fun c => skip1 h' _ hF (fun q => c q.1), fun c => ?_⟩
      have ho := Decidable.of_not_not c
      refine ⟨fun c2 => blk4 s0 hs ho (Or.inl (hs.pos c2)), fun c2 => ⟨fun c3 => skip1 h' _ hF (fun q => ?_), fun c3 => blk4 s0 hs ho (Or.inr (Decidable.of_not_not c3))⟩⟩
      rcases q.2.1 with q | q
      · exact hs.neg (Decidable.of_not_not c2) q
      · exact c3 q
    refine TB79_Laws_due_1 _ _ _ _ _ _ _ _ _ ⟨fun c => absurd c (by rw [hF 79 0 (by omega)]; omega), fun _ => mmD_of (by omega) (mmD_of (by omega) ?_)⟩
    rw [hF 81 k (by omega), hF 82 k (by omega)]
    exact ⟨fun c => blk3 0 (YN.no c) _, fun c => blk3 1 (YN.yes (Decidable.of_not_not c)) _⟩
theorem pB_due {own : Int} {e : Int → Int} {m0 : mmH} (he : envOk e) (hL : cLaw 46 1 h m0) (henv : envC 79 h e) (h0 : 0 ≤ h 79 0) (h8 : h 79 0 ≤ 8)
    (hy : ∀ h', Fr (fun k _ => k = 85) h h' → Q (tollE 46 h e own) h') : qC tFB (d + 3) k_Laws_due [79, own] h Q :=
  qC_intro (TB79_Laws_due_0 _ _ _ _ _ _ (lB_due he hL henv h0 h8 hy (h 79 0).toNat 0 (-1) h _ (by omega) (Int.le_refl _) (Or.inl rfl) Fr.rf rfl))
end DUB
