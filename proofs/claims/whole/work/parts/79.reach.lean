/-! ===== mm: all that can be come to ===== -/
/-- R: from s on, closed, no more -/
def isCl (n : Int) (E : Int → Int → Bool) (s R : Int) : Prop :=
  InI R ∧ tb R s = true ∧ (∀ l, 0 ≤ l → l < 32 → tb R l = true → l < n) ∧ (∀ a b, 0 ≤ a → a < n → 0 ≤ b → b < n → tb R a = true → E a b = true → tb R b = true) ∧
  (∀ P : Int → Prop, P s → (∀ a b, 0 ≤ a → a < n → 0 ≤ b → b < n → P a → E a b = true → P b) → ∀ l, 0 ≤ l → l < n → tb R l = true → P l)
theorem isCl_uniq {n : Int} {E : Int → Int → Bool} {s R R' : Int} (hn : n ≤ 31) (h : isCl n E s R) (h' : isCl n E s R') : R = R' := by
  have key : ∀ {X Y : Int}, isCl n E s X → isCl n E s Y → ∀ l, 0 ≤ l → l < 32 → tb X l = true → tb Y l = true := by
    intro X Y hX hY l l1 l2 e
    exact hX.2.2.2.2 (fun z => tb Y z = true) hY.2.1 (fun a b a1 a2 b1 b2 => hY.2.2.2.1 a b a1 a2 b1 b2) l l1 (hX.2.2.1 l l1 l2 e) e
  refine tb_ext h.1 h'.1 (fun l l1 l2 => ?_)
  cases e : tb R l with
  | true => exact (key h h' l l1 l2 e).symm
  | false =>
    cases e2 : tb R' l with
    | false => rfl
    | true => rw [key h' h l l1 l2 e2] at e; cases e
theorem isCl_congr {n : Int} {E E' : Int → Int → Bool} {s R : Int} (hE : ∀ a b, 0 ≤ a → a < n → 0 ≤ b → b < n → E a b = E' a b) (h : isCl n E s R) : isCl n E' s R := by
  obtain ⟨h1, h2, h3, h4, h5⟩ := h
  refine ⟨h1, h2, h3, fun a b a1 a2 b1 b2 q e => h4 a b a1 a2 b1 b2 q (by rw [hE a b a1 a2 b1 b2]; exact e), fun P p1 p2 => h5 P p1 (fun a b a1 a2 b1 b2 q e => p2 a b a1 a2 b1 b2 q (by rw [← hE a b a1 a2 b1 b2]; exact e))⟩
/-- one can come to the end, if and only if the end is within reach -/
theorem cl_dis {n : Int} {E : Int → Int → Bool} {w : Int → Int} {s last R : Int} (hn : n ≤ 10) (hw : wOk n E w) (hl1 : 0 ≤ last) (hl2 : last < n) (s1 : 0 ≤ s) (s2 : s < n) (h : isCl n E s R) : tb R last = true ↔ dis n E w last s ≠ wFar := by
  constructor
  · intro e q
    have := h.2.2.2.2 (fun a => dis n E w last a = wFar) q (fun a b a1 a2 b1 b2 qa ea => dis_far hn hw hl1 hl2 a1 a2 b1 b2 ea qa) last hl1 hl2 e
    rw [(dis_inv hn hw hl1 hl2).2.1] at this
    exact absurd this (by decide)
  · intro hf
    have key : ∀ k : Nat, (k : Int) ≤ (dis n E w last s).2 → tb R (pth n E w last (dis n E w last) k s) = true := by
      intro k
      induction k with
      | zero => intro _; exact h.2.1
      | succ k ih =>
        intro hk
        obtain ⟨p1, p2, p3, p4⟩ := pth_ok hn hw hl1 hl2 s1 s2 hf k (by omega)
        have hne : pth n E w last (dis n E w last) k s ≠ last := fun q => by
          have := (dis_zero hn hw hl1 hl2 p1 p2 p3).mpr q
          omega
        obtain ⟨q1, q2, q3, q4, q5, q6⟩ := nx_ok hn hw hl1 hl2 p1 p2 hne p3
        exact h.2.2.2.1 _ _ p1 p2 q1 q2 (ih (by omega)) q3
    have hT := (wInv_fin (dis_inv hn hw hl1 hl2) hn s1 s2 hf).2.2.1
    have := key (dis n E w last s).2.toNat (by omega)
    rw [(pth_last hn hw hl1 hl2 s1 s2 hf (k := (dis n E w last s).2.toNat) (by omega)).mpr (by omega)] at this
    exact this
/-- what one round brings -/
noncomputable def moreF (n : Int) (H : Int → Int) (o seen : Int) : Int := upTo (fun l m => bif tb seen l then mOr m (mAnd (H l) o) else m) 0 n seen
theorem moreF_tb {n o seen : Int} {H : Int → Int} (hn : 0 ≤ n) (l : Int) : tb (moreF n H o seen) l = true ↔ tb seen l = true ∨ ∃ a, 0 ≤ a ∧ a < n ∧ tb seen a = true ∧ (tb (H a) l && tb o l) = true := by
  refine upTo_inv (f := fun l m => bif tb seen l then mOr m (mAnd (H l) o) else m) (fun k m => tb m l = true ↔ tb seen l = true ∨ ∃ a, 0 ≤ a ∧ a < k ∧ tb seen a = true ∧ (tb (H a) l && tb o l) = true) hn ?_ (fun i m i1 i2 hm => ?_)
  · constructor
    · exact Or.inl
    · rintro (q | ⟨a, a1, a2, _⟩)
      · exact q
      · omega
  · cases e : tb seen i with
    | false =>
      simp only [cond_false]
      rw [hm]
      constructor
      · rintro (q | ⟨a, a1, a2, a3⟩)
        · exact Or.inl q
        · exact Or.inr ⟨a, a1, by omega, a3⟩
      · rintro (q | ⟨a, a1, a2, a3, a4⟩)
        · exact Or.inl q
        · refine Or.inr ⟨a, a1, ?_, a3, a4⟩
          have : a ≠ i := fun q => by rw [q, e] at a3; cases a3
          omega
    | true =>
      simp only [cond_true]
      rw [tb_or, Bool.or_eq_true, hm, tb_and]
      constructor
      · rintro ((q | ⟨a, a1, a2, a3⟩) | q)
        · exact Or.inl q
        · exact Or.inr ⟨a, a1, by omega, a3⟩
        · exact Or.inr ⟨i, i1, by omega, e, q⟩
      · rintro (q | ⟨a, a1, a2, a3, a4⟩)
        · exact Or.inl (Or.inl q)
        · by_cases q : a = i
          · subst q; exact Or.inr a4
          · exact Or.inl (Or.inr ⟨a, a1, by omega, a3, a4⟩)
theorem moreF_InI {n o seen : Int} {H : Int → Int} (hn : 0 ≤ n) (h : InI seen) : InI (moreF n H o seen) := by
  refine upTo_inv (f := fun l m => bif tb seen l then mOr m (mAnd (H l) o) else m) (fun _ m => InI m) hn h (fun i m _ _ hm => ?_)
  cases tb seen i with
  | false => exact hm
  | true => exact InI_or _ _
/-- what holds of what is seen so far -/
def seenI (n : Int) (H : Int → Int) (o s : Int) (r : Int) (R : Int) : Prop :=
  InI R ∧ tb R s = true ∧ (∀ l, 0 ≤ l → l < 32 → tb R l = true → l < n) ∧
  (∀ P : Int → Prop, P s → (∀ a b, 0 ≤ a → a < n → 0 ≤ b → b < n → P a → (tb (H a) b && tb o b) = true → P b) → ∀ l, 0 ≤ l → l < n → tb R l = true → P l) ∧ r + 1 ≤ (cN (tb R) n.toNat : Int)
theorem seenI_next {n o s r R : Int} {H : Int → Int} (hn0 : 0 ≤ n) (hn : n ≤ 10) (hH : ∀ a l, 0 ≤ a → a < n → 0 ≤ l → l < 32 → tb (H a) l = true → l < n) (h : seenI n H o s r R) (hne : moreF n H o R ≠ R) : seenI n H o s (r + 1) (moreF n H o R) := by
  obtain ⟨h1, h2, h3, h4, h5⟩ := h
  have t3 : ∀ l, 0 ≤ l → l < 32 → tb (moreF n H o R) l = true → l < n := by
    intro l l1 l2 e
    rcases (moreF_tb hn0 l).mp e with q | ⟨a, a1, a2, a3, a4⟩
    · exact h3 l l1 l2 q
    · rw [Bool.and_eq_true] at a4
      exact hH a l a1 a2 l1 l2 a4.1
  refine ⟨moreF_InI hn0 h1, (moreF_tb hn0 s).mpr (Or.inl h2), t3, fun P p1 p2 l l1 l2 e => ?_, ?_⟩
  · rcases (moreF_tb hn0 l).mp e with q | ⟨a, a1, a2, a3, a4⟩
    · exact h4 P p1 p2 l l1 l2 q
    · exact p2 a l a1 a2 l1 l2 (h4 P p1 p2 a a1 a2 a3) a4
  · -- something is new
    have hex : ∃ l, 0 ≤ l ∧ l < 32 ∧ tb (moreF n H o R) l = true ∧ tb R l = false := by
      refine Classical.byContradiction (fun q => hne ?_)
      refine tb_ext (moreF_InI hn0 h1) h1 (fun l l1 l2 => ?_)
      cases e : tb R l with
      | true => exact (moreF_tb hn0 l).mpr (Or.inl e)
      | false =>
        cases e2 : tb (moreF n H o R) l with
        | false => rfl
        | true => exact absurd ⟨l, l1, l2, e2, e⟩ q
    obtain ⟨l, l1, l2, e1, e2⟩ := hex
    have := cN_lt (p := tb R) (q := tb (moreF n H o R)) (y := l) n.toNat (fun x x1 x2 e => (moreF_tb hn0 x).mpr (Or.inl e)) l1 (by have := t3 l l1 l2 e1; omega) e2 e1
    omega
theorem seenI_done {n o s r R : Int} {H : Int → Int} (hn0 : 0 ≤ n) (h : seenI n H o s r R) (he : moreF n H o R = R) : isCl n (fun a b => tb (H a) b && tb o b) s R := by
  obtain ⟨h1, h2, h3, h4, h5⟩ := h
  refine ⟨h1, h2, h3, fun a b a1 a2 b1 b2 q e => ?_, h4⟩
  rw [← he]
  exact (moreF_tb hn0 b).mpr (Or.inr ⟨a, a1, a2, q, e⟩)
theorem seenI_first {n o s : Int} {H : Int → Int} (s1 : 0 ≤ s) (s2 : s < n) (hn : n ≤ 10) : seenI n H o s 0 (mShl 1 s) := by
  have ht : ∀ l, 0 ≤ l → l < 32 → (tb (mShl 1 s) l = true ↔ l = s) := fun l l1 l2 => by
    rw [tb_shl1 s1 (by omega) l1 l2]; simp
  refine ⟨InI_shl _ _, (ht s s1 (by omega)).mpr rfl, fun l l1 l2 e => ?_, fun P p1 p2 l l1 l2 e => ?_, ?_⟩
  · rw [(ht l l1 l2).mp e]; exact s2
  · rw [(ht l l1 (by omega)).mp e]; exact p1
  · have := cN_lt (p := fun _ => false) (q := tb (mShl 1 s)) (y := s) n.toNat (fun _ _ _ e => by cases e) s1 (by omega) rfl ((ht s s1 (by omega)).mpr rfl)
    omega
section RCA
variable {d : Nat} {h : mmH} {Q : Int → mmH → Prop}
theorem pA_reached {o : Int} (hn0 : 0 ≤ h 96 0) (hn : h 96 0 ≤ 10) (hH : ∀ a l, 0 ≤ a → a < h 96 0 → 0 ≤ l → l < 32 → tb (h 97 a) l = true → l < h 96 0) (s1 : 0 ≤ h 96 1) (s2 : h 96 1 < h 96 0)
    (hy : ∀ R, isCl (h 96 0) (fun a b => tb (h 97 a) b && tb o b) (h 96 1) R → Q R h) : qC tFA (d + 1) k_Walk_reached [96, o] h Q := by
  refine qC_intro (TA_Walk_reached_0 _ _ _ _ _ _ ?_)
  have key : ∀ (m : Nat) (r R : Int) (w4 w5 : mmV), r + m = 10 → 0 ≤ r → seenI (h 96 0) (h 97) o (h 96 1) r R → qB tFA d k_Walk_reached (h 0 0) (h 0 1) Q 1 [(3, 96), (1, o), (1, R), (1, r), w4, w5] [] h := by
    intro m
    induction m with
    | zero =>
      intro r R w4 w5 hr r0 hS
      have := cN_le (tb R) (h 96 0).toNat
      have := hS.2.2.2.2
      omega
    | succ m ih =>
      intro r R w4 w5 hr r0 hS
      refine TA_Walk_reached_1 _ _ _ _ _ _ _ _ _ _ ⟨fun c => absurd c (by omega), fun _ => ?_⟩
      refine upTo_go (P := fun i (mo : Int) => qB tFA d k_Walk_reached (h 0 0) (h 0 1) Q 2 [(3, 96), (1, o), (1, R), (1, r), (1, mo), (1, i)] [] h) (f := fun l m => bif tb R l then mOr m (mAnd (h 97 l) o) else m) 0 (h 96 0) R hn0 (fun i mo i1 i2 hp => ?_) ?_
      · refine TA_Walk_reached_2 _ _ _ _ _ _ _ _ _ _ ⟨fun c => absurd c (by omega), fun _ => ?_⟩
        rw [mAdd_ok (a := i) (by omega) (by omega)]
        refine ⟨fun c => ?_, fun c => mmD_of (by omega) ?_⟩
        · rw [Ne, bit_is i1 (by omega)] at c
          rw [Bool.eq_false_iff.mpr c] at hp
          exact hp
        · rw [(bit_is i1 (by omega)).mp (Decidable.of_not_not c)] at hp
          exact hp
      · refine TA_Walk_reached_2 _ _ _ _ _ _ _ _ _ _ ⟨fun _ => ⟨fun c => ?_, fun c => ?_⟩, fun c => absurd (Int.le_refl _) c⟩
        · rw [mAdd_ok (a := r) (by omega) (by omega)]
          exact ih (r + 1) _ _ _ (by omega) (by omega) (seenI_next hn0 hn hH hS c)
        · exact hy R (seenI_done hn0 hS (Decidable.of_not_not c))
  exact key 10 0 _ _ _ (by omega) (Int.le_refl _) (seenI_first s1 s2 hn)
theorem pA_arrives {o : Int} {w : Int → Int} (hn0 : 0 ≤ h 96 0) (hn : h 96 0 ≤ 10) (hH : ∀ a l, 0 ≤ a → a < h 96 0 → 0 ≤ l → l < 32 → tb (h 97 a) l = true → l < h 96 0) (s1 : 0 ≤ h 96 1) (s2 : h 96 1 < h 96 0) (l1 : 0 ≤ h 96 2) (l2 : h 96 2 < h 96 0)
    (hw : wOk (h 96 0) (fun a b => tb (h 97 a) b && tb o b) w) (hy : ∀ x, YN x (dis (h 96 0) (fun a b => tb (h 97 a) b && tb o b) w (h 96 2) (h 96 1) ≠ wFar) → Q x h) : qC tFA (d + 2) k_Walk_arrives [96, o] h Q := by
  refine qC_intro (TA_Walk_arrives_0 _ _ _ _ _ _ (pA_reached hn0 hn hH s1 s2 (fun R hR => ?_)))
  have := cl_dis hn hw l1 l2 s1 s2 hR
  rw [Ne, bit_is l1 (by omega)]
  exact ⟨fun c => hy _ (YN.no (fun q => c (this.mpr q))), fun c => hy _ (YN.yes (this.mp (Decidable.of_not_not c)))⟩
end RCA
section RCB
variable {d : Nat} {h : mmH} {Q : Int → mmH → Prop}
theorem pB_reached {o : Int} (hn0 : 0 ≤ h 96 0) (hn : h 96 0 ≤ 10) (hH : ∀ a l, 0 ≤ a → a < h 96 0 → 0 ≤ l → l < 32 → tb (h 97 a) l = true → l < h 96 0) (s1 : 0 ≤ h 96 1) (s2 : h 96 1 < h 96 0)
    (hy : ∀ R, isCl (h 96 0) (fun a b => tb (h 97 a) b && tb o b) (h 96 1) R → Q R h) : qC tFB (d + 1) k_Walk_reached [96, o] h Q := by
  refine qC_intro (TB_Walk_reached_0 _ _ _ _ _ _ ?_)
  have key : ∀ (m : Nat) (r R : Int) (w4 w5 : mmV), r + m = 10 → 0 ≤ r → seenI (h 96 0) (h 97) o (h 96 1) r R → qB tFB d k_Walk_reached (h 0 0) (h 0 1) Q 1 [(3, 96), (1, o), (1, R), (1, r), w4, w5] [] h := by
    intro m
    induction m with
    | zero =>
      intro r R w4 w5 hr r0 hS
      have := cN_le (tb R) (h 96 0).toNat
      have := hS.2.2.2.2
      omega
    | succ m ih =>
      intro r R w4 w5 hr r0 hS
      refine TB_Walk_reached_1 _ _ _ _ _ _ _ _ _ _ ⟨fun c => absurd c (by omega), fun _ => ?_⟩
      refine upTo_go (P := fun i (mo : Int) => qB tFB d k_Walk_reached (h 0 0) (h 0 1) Q 2 [(3, 96), (1, o), (1, R), (1, r), (1, mo), (1, i)] [] h) (f := fun l m => bif tb R l then mOr m (mAnd (h 97 l) o) else m) 0 (h 96 0) R hn0 (fun i mo i1 i2 hp => ?_) ?_
      · refine TB_Walk_reached_2 _ _ _ _ _ _ _ _ _ _ ⟨fun c => absurd c (by omega), fun _ => ?_⟩
        rw [mAdd_ok (a := i) (by omega) (by omega)]
        refine ⟨fun c => ?_, fun c => mmD_of (by omega) ?_⟩
        · rw [Ne, bit_is i1 (by omega)] at c
          rw [Bool.eq_false_iff.mpr c] at hp
          exact hp
        · rw [(bit_is i1 (by omega)).mp (Decidable.of_not_not c)] at hp
          exact hp
      · refine TB_Walk_reached_2 _ _ _ _ _ _ _ _ _ _ ⟨fun _ => ⟨fun c => ?_, fun c => ?_⟩, fun c => absurd (Int.le_refl _) c⟩
        · rw [mAdd_ok (a := r) (by omega) (by omega)]
          exact ih (r + 1) _ _ _ (by omega) (by omega) (seenI_next hn0 hn hH hS c)
        · exact hy R (seenI_done hn0 hS (Decidable.of_not_not c))
  exact key 10 0 _ _ _ (by omega) (Int.le_refl _) (seenI_first s1 s2 hn)
theorem pB_arrives {o : Int} {w : Int → Int} (hn0 : 0 ≤ h 96 0) (hn : h 96 0 ≤ 10) (hH : ∀ a l, 0 ≤ a → a < h 96 0 → 0 ≤ l → l < 32 → tb (h 97 a) l = true → l < h 96 0) (s1 : 0 ≤ h 96 1) (s2 : h 96 1 < h 96 0) (l1 : 0 ≤ h 96 2) (l2 : h 96 2 < h 96 0)
    (hw : wOk (h 96 0) (fun a b => tb (h 97 a) b && tb o b) w) (hy : ∀ x, YN x (dis (h 96 0) (fun a b => tb (h 97 a) b && tb o b) w (h 96 2) (h 96 1) ≠ wFar) → Q x h) : qC tFB (d + 2) k_Walk_arrives [96, o] h Q := by
  refine qC_intro (TB_Walk_arrives_0 _ _ _ _ _ _ (pB_reached hn0 hn hH s1 s2 (fun R hR => ?_)))
  have := cl_dis hn hw l1 l2 s1 s2 hR
  rw [Ne, bit_is l1 (by omega)]
  exact ⟨fun c => hy _ (YN.no (fun q => c (this.mpr q))), fun c => hy _ (YN.yes (this.mp (Decidable.of_not_not c)))⟩
end RCB
