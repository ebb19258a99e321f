/-! ===== mm: ways, asked on both sides ===== -/
noncomputable def wayV (u : Int) (g : mmH) (p k : Int) : Int :=
  if k = -1 then (dP u g p (g 88 p)).1 else if k = 20 then (dP u g p (g 88 p)).2 else if 0 ≤ k ∧ k < (dP u g p (g 88 p)).2 then pP u g p (k.toNat + 1) else -1
theorem eP_iff {u : Int} {g : mmH} {p a b : Int} : eP u g p a b = true ↔ nearS u g (g 86 1) p a b = true ∧ 0 < g 87 b ∧ tollC u g p b (g 87 b) ≠ -1 := by
  unfold eP opS
  simp
/-- one round of the reference's reaching -/
noncomputable def gsR (n : Int) (E : Int → Int → Bool) (R : Int) : Int := upTo (fun a R => upTo (fun b R => bif tb R a && E a b then mOr R (mShl 1 b) else R) 0 n R) 0 n R
section GS
variable {n : Int} {E : Int → Int → Bool}
theorem gs_in {a R : Int} (hn : 0 ≤ n) (hn2 : n ≤ 10) (ha : 0 ≤ a ∧ a < n) (I : Int → Prop) (h0 : I R) (hs : ∀ R b, 0 ≤ b → b < n → I R → tb R a = true → E a b = true → I (mOr R (mShl 1 b))) : I (upTo (fun b R => bif tb R a && E a b then mOr R (mShl 1 b) else R) 0 n R) := by
  refine upTo_inv (fun _ R => I R) hn h0 (fun b R b1 b2 hR => ?_)
  cases e : tb R a && E a b with
  | false => exact hR
  | true =>
    rw [Bool.and_eq_true] at e
    exact hs R b b1 b2 hR e.1 e.2
theorem gs_all {R : Int} (hn : 0 ≤ n) (hn2 : n ≤ 10) (I : Int → Prop) (h0 : I R) (hs : ∀ R a b, 0 ≤ a → a < n → 0 ≤ b → b < n → I R → tb R a = true → E a b = true → I (mOr R (mShl 1 b))) : I (gsR n E R) :=
  upTo_inv (fun _ R => I R) hn h0 (fun a R a1 a2 hR => gs_in hn hn2 ⟨a1, a2⟩ I hR (fun R b b1 b2 => hs R a b a1 a2 b1 b2))
theorem tb_or1 {R b l : Int} (hb : 0 ≤ b ∧ b < 10) (hl : 0 ≤ l ∧ l < 32) : tb (mOr R (mShl 1 b)) l = true ↔ tb R l = true ∨ l = b := by
  rw [tb_or, Bool.or_eq_true, tb_shl1 hb.1 (by omega) hl.1 hl.2, decide_eq_true_eq]
theorem gs_mono {R l : Int} (hn : 0 ≤ n) (hn2 : n ≤ 10) (hl : 0 ≤ l ∧ l < 32) (h : tb R l = true) : tb (gsR n E R) l = true :=
  gs_all hn hn2 (fun R => tb R l = true) h (fun R a b _ _ b1 b2 hR _ _ => (tb_or1 ⟨b1, by omega⟩ hl).mpr (Or.inl hR))
theorem gs_step {R a b : Int} (hn : 0 ≤ n) (hn2 : n ≤ 10) (a1 : 0 ≤ a) (a2 : a < n) (b1 : 0 ≤ b) (b2 : b < n) (h : tb R a = true) (e : E a b = true) : tb (gsR n E R) b = true := by
  have key := upTo_inv (f := fun a R => upTo (fun b R => bif tb R a && E a b then mOr R (mShl 1 b) else R) 0 n R) (fun k R' => tb R' a = true ∧ (a < k → tb R' b = true)) (k := 0) (m := n) (s := R) hn ⟨h, fun q => absurd q (by omega)⟩ (fun i R' i1 i2 hI => ?_)
  · exact key.2 a2
  · have mono : ∀ l, 0 ≤ l ∧ l < 32 → tb R' l = true → tb (upTo (fun b R => bif tb R i && E i b then mOr R (mShl 1 b) else R) 0 n R') l = true := fun l hl q =>
      gs_in hn hn2 ⟨i1, i2⟩ (fun R => tb R l = true) q (fun R b c1 c2 hR _ _ => (tb_or1 ⟨c1, by omega⟩ hl).mpr (Or.inl hR))
    refine ⟨mono a ⟨a1, by omega⟩ hI.1, fun q => ?_⟩
    by_cases ei : i = a
    · subst ei
      have k2 := upTo_inv (f := fun b R => bif tb R i && E i b then mOr R (mShl 1 b) else R) (fun k R'' => tb R'' i = true ∧ (b < k → tb R'' b = true)) (k := 0) (m := n) (s := R') hn ⟨hI.1, fun q => absurd q (by omega)⟩ (fun j R'' j1 j2 hJ => ?_)
      · exact k2.2 b2
      · cases e2 : tb R'' i && E i j with
        | false =>
          rw [Bool.and_eq_false_iff] at e2
          refine ⟨hJ.1, fun q => ?_⟩
          by_cases ej : b = j
          · subst ej
            rcases e2 with e2 | e2
            · rw [hJ.1] at e2; cases e2
            · rw [e] at e2; cases e2
          · exact hJ.2 (by omega)
        | true =>
          refine ⟨(tb_or1 ⟨j1, by omega⟩ ⟨a1, by omega⟩).mpr (Or.inl hJ.1), fun q => ?_⟩
          refine (tb_or1 ⟨j1, by omega⟩ ⟨b1, by omega⟩).mpr ?_
          by_cases ej : b = j
          · exact Or.inr ej
          · exact Or.inl (hJ.2 (by omega))
    · exact mono b ⟨b1, by omega⟩ (hI.2 (by omega))
def gsI (n : Int) (E : Int → Int → Bool) (s R : Int) : Prop :=
  InI R ∧ tb R s = true ∧ (∀ l, 0 ≤ l → l < 32 → tb R l = true → l < n) ∧ (∀ P : Int → Prop, P s → (∀ a b, 0 ≤ a → a < n → 0 ≤ b → b < n → P a → E a b = true → P b) → ∀ l, 0 ≤ l → l < n → tb R l = true → P l)
theorem gsI_next {s R : Int} (hn : 0 ≤ n) (hn2 : n ≤ 10) (hs : 0 ≤ s ∧ s < n) (h : gsI n E s R) : gsI n E s (gsR n E R) := by
  refine gs_all hn hn2 (gsI n E s) h (fun R a b a1 a2 b1 b2 hI ha e => ?_)
  obtain ⟨h1, h2, h3, h4⟩ := hI
  refine ⟨InI_or _ _, (tb_or1 ⟨b1, by omega⟩ ⟨hs.1, by omega⟩).mpr (Or.inl h2), fun l l1 l2 q => ?_, fun P p1 p2 l l1 l2 q => ?_⟩
  · rcases (tb_or1 ⟨b1, by omega⟩ ⟨l1, l2⟩).mp q with q | q
    · exact h3 l l1 l2 q
    · omega
  · rcases (tb_or1 ⟨b1, by omega⟩ ⟨l1, by omega⟩).mp q with q | q
    · exact h4 P p1 p2 l l1 l2 q
    · rw [q]; exact p2 a b a1 a2 b1 b2 (h4 P p1 p2 a a1 a2 ha) e
theorem gs_rest {R : Int} (h : gsR n E R = R) : ∀ (m : Nat) (k : Int), upI (fun _ R => gsR n E R) m k R = R
  | 0, _ => rfl
  | m + 1, k => by
    unfold upI
    rw [h]
    exact gs_rest h m (k + 1)
theorem gs_done {s : Int} (hn : 0 ≤ n) (hn2 : n ≤ 10) (hs : 0 ≤ s ∧ s < n) : isCl n E s (upI (fun _ R => gsR n E R) n.toNat 0 (mShl 1 s)) := by
  have h0 : gsI n E s (mShl 1 s) := by
    have := seenI_first (n := n) (o := 0) (H := fun _ => 0) hs.1 hs.2 hn2
    refine ⟨this.1, this.2.1, this.2.2.1, fun P p1 p2 l l1 l2 q => ?_⟩
    rw [tb_shl1 hs.1 (by omega) l1 (by omega), decide_eq_true_eq] at q
    rw [q]; exact p1
  have key : ∀ (m : Nat) (k : Int) (R : Int), gsI n E s R → n.toNat ≤ m + (cN (tb R) n.toNat) → isCl n E s (upI (fun _ R => gsR n E R) (m + 1) k R) := by
    intro m
    induction m with
    | zero =>
      intro k R hI hc
      have he : gsR n E R = R := by
        refine tb_ext (gsI_next hn hn2 hs hI).1 hI.1 (fun l l1 l2 => ?_)
        cases e : tb R l with
        | true => exact gs_mono hn hn2 ⟨l1, l2⟩ e
        | false =>
          cases e2 : tb (gsR n E R) l with
          | false => rfl
          | true =>
            have hl := (gsI_next hn hn2 hs hI).2.2.1 l l1 l2 e2
            have := cN_lt_n (p := tb R) (n := n.toNat) (y := l) l1 (by omega) e
            omega
      show isCl n E s (gsR n E R)
      rw [he]
      exact ⟨hI.1, hI.2.1, hI.2.2.1, fun a b a1 a2 b1 b2 q e => by rw [← he]; exact gs_step hn hn2 a1 a2 b1 b2 q e, hI.2.2.2⟩
    | succ m ih =>
      intro k R hI hc
      by_cases he : gsR n E R = R
      · rw [gs_rest he]
        exact ⟨hI.1, hI.2.1, hI.2.2.1, fun a b a1 a2 b1 b2 q e => by rw [← he]; exact gs_step hn hn2 a1 a2 b1 b2 q e, hI.2.2.2⟩
      · show isCl n E s (upI (fun _ R => gsR n E R) (m + 1) (k + 1) (gsR n E R))
        refine ih (k + 1) _ (gsI_next hn hn2 hs hI) ?_
        have hex : ∃ l, 0 ≤ l ∧ l < 32 ∧ tb (gsR n E R) l = true ∧ tb R l = false := by
          refine Classical.byContradiction (fun q => he ?_)
          refine tb_ext (gsI_next hn hn2 hs hI).1 hI.1 (fun l l1 l2 => ?_)
          cases e : tb R l with
          | true => exact gs_mono hn hn2 ⟨l1, l2⟩ e
          | false =>
            cases e2 : tb (gsR n E R) l with
            | false => rfl
            | true => exact absurd ⟨l, l1, l2, e2, e⟩ q
        obtain ⟨l, l1, l2, e1, e2⟩ := hex
        have := cN_lt (p := tb R) (q := tb (gsR n E R)) (y := l) n.toNat (fun x x1 x2 e => gs_mono hn hn2 ⟨x1, by omega⟩ e) l1 (by have := (gsI_next hn hn2 hs hI).2.2.1 l l1 l2 e1; omega) e2 e1
        omega
  obtain ⟨m, hm⟩ : ∃ m, n.toNat = m + 1 := ⟨n.toNat - 1, by omega⟩
  rw [hm]
  refine key m 0 _ h0 ?_
  have := cN_lt (p := fun _ => false) (q := tb (mShl 1 s)) (y := s) n.toNat (fun _ _ _ e => by cases e) hs.1 (by omega) rfl h0.2.1
  omega
end GS
section AWA
variable {d : Nat} {h m0 : mmH} {Q : Int → mmH → Prop}
theorem aA_toll {p l : Int} (hC : Cp 5 h m0) (hy : ∀ x h', Fr (Sw3 5) h h' → x = (if (0 ≤ p ∧ p < h 5 3) ∧ (0 ≤ l ∧ l < h 5 1) then tollC 5 h p l (h 87 l) else -2) → Q x h') : qC tFA (d + 5) k_c_toll [1, p, l] h Q := by
  have n1 := hC.T.1.2.1.2.1
  refine qC_intro (TA_c_toll_0 _ _ _ _ _ _ _ (pA_isPerson (fun x hx => ⟨fun c => hy _ _ Fr.rf (by rw [if_neg (fun q => hx.neg c q.1)]), fun c => pA5_isLot (fun z hz => ⟨fun c2 => ?_, fun c2 => hy _ _ Fr.rf (by rw [if_neg (fun q => hz.neg (Decidable.of_not_not c2) q.2)])⟩)⟩)))
  obtain ⟨p1, p2⟩ := hx.pos c
  obtain ⟨l1, l2⟩ := hz.pos c2
  have ht := hC.N.2.2.2.1 l l1 l2
  simp only [Int.reduceAdd] at ht
  exact mmD_of (by omega) (pA_tollAt hC.T hC.N.1.2 p1 p2 l1 l2 ht.2.1 ht.2.2 (fun h' f' => hy _ h' (f'.mono (fun _ _ q => Or.inl q)) (by rw [if_pos ⟨⟨p1, p2⟩, l1, l2⟩])))
theorem aA_step {p a b : Int} (hC : Cp 5 h m0) (hy : ∀ x h', Fr (Sw3 5) h h' → x = (if (0 ≤ p ∧ p < h 5 3) ∧ (0 ≤ a ∧ a < h 5 1) ∧ (0 ≤ b ∧ b < h 5 1) then (if eP 5 h p a b = true then 1 else 0) else -1) → Q x h') : qC tFA (d + 6) k_c_step [1, p, a, b] h Q := by
  have n1 := hC.T.1.2.1.2.1
  refine qC_intro (TA_c_step_0 _ _ _ _ _ _ _ _ (pA_isPerson (fun x hx => ⟨fun c => hy _ _ Fr.rf (by rw [if_neg (fun q => hx.neg c q.1)]), fun c => pA5_isLot (fun z hz => ⟨fun c2 => hy _ _ Fr.rf (by rw [if_neg (fun q => hz.neg c2 q.2.1)]), fun c2 => pA5_isLot (fun y hy2 => ⟨fun c3 => ?_, fun c3 => hy _ _ Fr.rf (by rw [if_neg (fun q => hy2.neg (Decidable.of_not_not c3) q.2.2)])⟩)⟩)⟩)))
  obtain ⟨p1, p2⟩ := hx.pos c
  obtain ⟨a1, a2⟩ := hz.pos c2
  obtain ⟨b1, b2⟩ := hy2.pos c3
  refine pA_look hC.T hC.N p1 p2 (fun h1 f1 hW => mmD_of (by omega) (hy _ h1 (f1.mono (fun k i q => ?_)) ?_))
  · rcases q with q | q
    · exact Or.inl q
    · exact Or.inr (by omega)
  · rw [if_pos ⟨⟨p1, p2⟩, ⟨a1, a2⟩, b1, b2⟩, eB_and ⟨b1, by omega⟩, eB_Wk n1 hW a1 a2 b1 b2]
theorem aA_way {p k : Int} (hC : Cp 5 h m0) (hy : ∀ x h', Fr (Sw3 5) h h' → x = (if (0 ≤ p ∧ p < h 5 3) ∧ dP 5 h p (h 88 p) ≠ wFar then wayV 5 h p k else -1) → Q x h') : qC tFA (d + 7) k_c_way [1, p, k] h Q := by
  have n1 := hC.T.1.2.1.2.1
  refine qC_intro (TA_c_way_0 _ _ _ _ _ _ _ (pA_findsWay hC.T hC.N (fun h' f' hn => ⟨fun c => absurd rfl c, fun _ => hy _ h' f' (by rw [if_neg hn])⟩) (fun h' f' hp hf hw => ⟨fun _ => ?_, fun c => absurd (Decidable.of_not_not c) (by omega)⟩)))
  obtain ⟨w1, w2, w3, -⟩ := hw
  obtain ⟨⟨s1, s2⟩, ⟨g1, g2⟩, -, -, -⟩ := Nw_at hC.N hp.1 hp.2
  have vs : 0 ≤ (dP 5 h p (h 88 p)).1 ∧ (dP 5 h p (h 88 p)).1 ≤ 8991 ∧ 0 ≤ (dP 5 h p (h 88 p)).2 ∧ (dP 5 h p (h 88 p)).2 < h 5 1 := wInv_fin (dis_inv n1.2 (wOk_P 5 h p) g1 g2) n1.2 s1 s2 hf
  have hy := fun x q => hy x h' f' (by rw [if_pos ⟨hp, hf⟩]; exact q)
  unfold wayV at hy
  rw [w2]
  refine ⟨fun c => ⟨fun c2 => ⟨fun c3 => hy _ (by rw [if_neg c, if_neg c2, if_neg (by omega)]), fun c3 => ⟨fun c4 => hy _ (by rw [if_neg c, if_neg c2, if_neg (by omega)]), fun c4 => mmD_of (by omega) (hy _ ?_)⟩⟩, fun c2 => hy _ (by rw [if_neg c, if_pos (Decidable.of_not_not c2)])⟩, fun c => hy _ (by rw [if_pos (Decidable.of_not_not c)]; exact w1)⟩
  rw [if_neg c, if_neg c2, if_pos ⟨by omega, by omega⟩]
  have := w3 k.toNat (by omega)
  rw [show ((k.toNat : Nat) : Int) = k by omega] at this
  exact this
theorem aA_reach {p : Int} (hC : Cp 5 h m0) (hy : ∀ x h', Fr (Sw3 5) h h' → ((0 ≤ p ∧ p < h 5 3) ∧ isCl (h 5 1) (eP 5 h p) (h 88 p) x ∨ (¬ (0 ≤ p ∧ p < h 5 3) ∧ x = -1)) → Q x h') : qC tFA (d + 6) k_c_reach [1, p] h Q := by
  have n1 := hC.T.1.2.1.2.1
  refine qC_intro (TA_c_reach_0 _ _ _ _ _ _ (pA_isPerson (fun x hx => ⟨fun c => ?_, fun c => hy _ _ Fr.rf (Or.inr ⟨hx.neg (Decidable.of_not_not c), rfl⟩)⟩)))
  obtain ⟨p1, p2⟩ := hx.pos c
  obtain ⟨⟨s1, s2⟩, -⟩ := Nw_at hC.N p1 p2
  refine pA_look hC.T hC.N p1 p2 (fun h1 f1 hW => ?_)
  have hE : ∀ a b, 0 ≤ a → a < h 5 1 → 0 ≤ b → b < h 5 1 → (tb (h1 97 a) b && tb (h1 96 3) b) = eP 5 h p a b := fun a b a1 a2 b1 b2 => eB_Wk n1 hW a1 a2 b1 b2
  refine pA_reached (by rw [hW.1]; exact n1.1) (by rw [hW.1]; exact n1.2) (fun a l a1 a2 l1 l2 e => by rw [hW.1] at a2 ⊢; exact hops_Wk n1 hW a1 a2 l1 l2 e) (by rw [hW.2.1]; exact s1) (by rw [hW.2.1, hW.1]; exact s2) (fun R hR => hy R h1 (f1.mono (fun k i q => ?_)) (Or.inl ⟨⟨p1, p2⟩, ?_⟩))
  · rcases q with q | q
    · exact Or.inl q
    · exact Or.inr (by omega)
  · rw [hW.1, hW.2.1] at hR
    exact isCl_congr hE hR
end AWA
section AWB
variable {d : Nat} {h m0 : mmH} {Q : Int → mmH → Prop}
theorem aB_toll {p l : Int} (hC : Cp 46 h m0) (hy : ∀ x h', Fr (Sw3 46) h h' → x = (if (0 ≤ p ∧ p < h 46 3) ∧ (0 ≤ l ∧ l < h 46 1) then tollC 46 h p l (h 87 l) else -2) → Q x h') : qC tFB (d + 5) k_c_toll [1, p, l] h Q := by
  have n1 := hC.T.1.2.1.2.1
  refine qC_intro (TB_c_toll_0 _ _ _ _ _ _ _ (pB_isPerson (fun x hx => ⟨fun c => hy _ _ Fr.rf (by rw [if_neg (fun q => hx.neg c q.1)]), fun c => pB46_isLot (fun z hz => ⟨fun c2 => ?_, fun c2 => hy _ _ Fr.rf (by rw [if_neg (fun q => hz.neg (Decidable.of_not_not c2) q.2)])⟩)⟩)))
  obtain ⟨p1, p2⟩ := hx.pos c
  obtain ⟨l1, l2⟩ := hz.pos c2
  have ht := hC.N.2.2.2.1 l l1 l2
  simp only [Int.reduceAdd] at ht
  exact mmD_of (by omega) (pB_tollAt hC.T hC.N.1.2 p1 p2 l1 l2 ht.2.1 ht.2.2 (fun h' f' => hy _ h' (f'.mono (fun _ _ q => Or.inl q)) (by rw [if_pos ⟨⟨p1, p2⟩, l1, l2⟩])))
theorem aB_step {p a b : Int} (hC : Cp 46 h m0) (hy : ∀ x h', Fr (Sw3 46) h h' → x = (if (0 ≤ p ∧ p < h 46 3) ∧ (0 ≤ a ∧ a < h 46 1) ∧ (0 ≤ b ∧ b < h 46 1) then (if eP 46 h p a b = true then 1 else 0) else -1) → Q x h') : qC tFB (d + 6) k_c_step [1, p, a, b] h Q := by
  have n1 := hC.T.1.2.1.2.1
  refine qC_intro (TB_c_step_0 _ _ _ _ _ _ _ _ (pB_isPerson (fun x hx => ⟨fun c => hy _ _ Fr.rf (by rw [if_neg (fun q => hx.neg c q.1)]), fun c => pB46_isLot (fun z hz => ⟨fun c2 => hy _ _ Fr.rf (by rw [if_neg (fun q => hz.neg c2 q.2.1)]), fun c2 => pB46_isLot (fun y hy2 => ⟨fun c3 => ?_, fun c3 => hy _ _ Fr.rf (by rw [if_neg (fun q => hy2.neg (Decidable.of_not_not c3) q.2.2)])⟩)⟩)⟩)))
  obtain ⟨p1, p2⟩ := hx.pos c
  obtain ⟨a1, a2⟩ := hz.pos c2
  obtain ⟨b1, b2⟩ := hy2.pos c3
  refine pB_look hC.T hC.N p1 p2 (fun h1 f1 hW => mmD_of (by omega) (hy _ h1 (f1.mono (fun k i q => ?_)) ?_))
  · rcases q with q | q
    · exact Or.inl q
    · exact Or.inr (by omega)
  · rw [if_pos ⟨⟨p1, p2⟩, ⟨a1, a2⟩, b1, b2⟩, eB_and ⟨b1, by omega⟩, eB_Wk n1 hW a1 a2 b1 b2]
theorem aB_way {p k : Int} (hC : Cp 46 h m0) (hy : ∀ x h', Fr (Sw3 46) h h' → x = (if (0 ≤ p ∧ p < h 46 3) ∧ dP 46 h p (h 88 p) ≠ wFar then wayV 46 h p k else -1) → Q x h') : qC tFB (d + 7) k_c_way [1, p, k] h Q := by
  have n1 := hC.T.1.2.1.2.1
  refine qC_intro (TB_c_way_0 _ _ _ _ _ _ _ (pB_findsWay hC.T hC.N (fun h' f' hn => ⟨fun c => absurd rfl c, fun _ => hy _ h' f' (by rw [if_neg hn])⟩) (fun h' f' hp hf hw => ⟨fun _ => ?_, fun c => absurd (Decidable.of_not_not c) (by omega)⟩)))
  obtain ⟨w1, w2, w3, -⟩ := hw
  obtain ⟨⟨s1, s2⟩, ⟨g1, g2⟩, -, -, -⟩ := Nw_at hC.N hp.1 hp.2
  have vs : 0 ≤ (dP 46 h p (h 88 p)).1 ∧ (dP 46 h p (h 88 p)).1 ≤ 8991 ∧ 0 ≤ (dP 46 h p (h 88 p)).2 ∧ (dP 46 h p (h 88 p)).2 < h 46 1 := wInv_fin (dis_inv n1.2 (wOk_P 46 h p) g1 g2) n1.2 s1 s2 hf
  have hy := fun x q => hy x h' f' (by rw [if_pos ⟨hp, hf⟩]; exact q)
  unfold wayV at hy
  rw [w2]
  refine ⟨fun c => ⟨fun c2 => ⟨fun c3 => hy _ (by rw [if_neg c, if_neg c2, if_neg (by omega)]), fun c3 => ⟨fun c4 => hy _ (by rw [if_neg c, if_neg c2, if_neg (by omega)]), fun c4 => mmD_of (by omega) (hy _ ?_)⟩⟩, fun c2 => hy _ (by rw [if_neg c, if_pos (Decidable.of_not_not c2)])⟩, fun c => hy _ (by rw [if_pos (Decidable.of_not_not c)]; exact w1)⟩
  rw [if_neg c, if_neg c2, if_pos ⟨by omega, by omega⟩]
  have := w3 k.toNat (by omega)
  rw [show ((k.toNat : Nat) : Int) = k by omega] at this
  exact this
theorem aB_reach {p : Int} (hC : Cp 46 h m0) (hy : ∀ x h', Fr (Sw3 46) h h' → ((0 ≤ p ∧ p < h 46 3) ∧ isCl (h 46 1) (eP 46 h p) (h 88 p) x ∨ (¬ (0 ≤ p ∧ p < h 46 3) ∧ x = -1)) → Q x h') : qC tFB (d + 6) k_c_reach [1, p] h Q := by
  have n1 := hC.T.1.2.1.2.1
  refine qC_intro (TB_c_reach_0 _ _ _ _ _ _ (pB_isPerson (fun x hx => ⟨fun c => ?_, fun c => hy _ _ Fr.rf (Or.inr ⟨hx.neg (Decidable.of_not_not c), rfl⟩)⟩)))
  obtain ⟨p1, p2⟩ := hx.pos c
  obtain ⟨⟨s1, s2⟩, -⟩ := Nw_at hC.N p1 p2
  refine pB_look hC.T hC.N p1 p2 (fun h1 f1 hW => ?_)
  have hE : ∀ a b, 0 ≤ a → a < h 46 1 → 0 ≤ b → b < h 46 1 → (tb (h1 97 a) b && tb (h1 96 3) b) = eP 46 h p a b := fun a b a1 a2 b1 b2 => eB_Wk n1 hW a1 a2 b1 b2
  refine pB_reached (by rw [hW.1]; exact n1.1) (by rw [hW.1]; exact n1.2) (fun a l a1 a2 l1 l2 e => by rw [hW.1] at a2 ⊢; exact hops_Wk n1 hW a1 a2 l1 l2 e) (by rw [hW.2.1]; exact s1) (by rw [hW.2.1, hW.1]; exact s2) (fun R hR => hy R h1 (f1.mono (fun k i q => ?_)) (Or.inl ⟨⟨p1, p2⟩, ?_⟩))
  · rcases q with q | q
    · exact Or.inl q
    · exact Or.inr (by omega)
  · rw [hW.1, hW.2.1] at hR
    exact isCl_congr hE hR
end AWB
section BW
variable {d : Nat} {u : Int} {g h : mmH} {Q : Int → mmH → Prop}
theorem Cp.uu (hC : Cp u g h) : u = 5 ∨ u = 46 := hC.1
theorem b_toll {p l : Int} (hC : Cp u g h) (hy : ∀ x h', Fr Smw h h' → x = (if (0 ≤ p ∧ p < g u 3) ∧ (0 ≤ l ∧ l < g u 1) then tollC u g p l (g 87 l) else -2) → Q x h') : qC tFM (d + 5) k_m_toll [282, p, l] h Q := by
  obtain ⟨m0, m1, m2, m3, m4⟩ := hC.many
  obtain ⟨w0, w1, w2, w3, w4, w5, w6⟩ := hC.now
  have n1 := hC.T.1.2.1.2.1
  have n3 := hC.T.1.2.1.2.2.1
  refine qC_intro (T_m_toll_0 _ _ _ _ _ _ _ (q_m_isPerson (by omega) (by omega) (fun x hx => ⟨fun c => hy _ _ Fr.rf (by rw [if_neg (fun q => hx.neg c (by omega))]), fun c => q_m_isLot (by omega) (by omega) (fun z hz => ⟨fun c2 => hy _ _ Fr.rf (by rw [if_neg (fun q => hz.neg c2 (by omega))]), fun c2 => ?_⟩)⟩)))
  have hp := hx.pos c
  have hl := hz.pos c2
  rw [m2] at hp
  rw [m1] at hl
  refine q_m_tilesOf hl.1 (by omega) ?_
  rw [(w3 l hl.1 hl.2).1]
  exact q_m_tollOf hC.uu hC.T ⟨w0, w1.1⟩ hp.1 hp.2 hl.1 hl.2 (w3 l hl.1 hl.2).2.1 (w3 l hl.1 hl.2).2.2 (fun h' f' => hy _ h' (f'.mono (fun _ _ q => Or.inl (Or.inl q))) (by rw [if_pos ⟨hp, hl⟩]))
theorem b_step {p a b : Int} (hC : Cp u g h) (hy : ∀ x h', Fr Smw h h' → x = (if (0 ≤ p ∧ p < g u 3) ∧ (0 ≤ a ∧ a < g u 1) ∧ (0 ≤ b ∧ b < g u 1) then (if eP u g p a b = true then 1 else 0) else -1) → Q x h') : qC tFM (d + 5) k_m_step [282, p, a, b] h Q := by
  obtain ⟨m0, m1, m2, m3, m4⟩ := hC.many
  obtain ⟨w0, w1, w2, w3, w4, w5, w6⟩ := hC.now
  have n1 := hC.T.1.2.1.2.1
  have n3 := hC.T.1.2.1.2.2.1
  refine qC_intro (T_m_step_0 _ _ _ _ _ _ _ _ (q_m_isPerson (by omega) (by omega) (fun x hx => ⟨fun c => hy _ _ Fr.rf (by rw [if_neg (fun q => hx.neg c (by omega))]), fun c => q_m_isLot (by omega) (by omega) (fun z hz => ⟨fun c2 => hy _ _ Fr.rf (by rw [if_neg (fun q => hz.neg c2 (by omega))]), fun c2 => q_m_isLot (by omega) (by omega) (fun y hy2 => ⟨fun c3 => ?_, fun c3 => hy _ _ Fr.rf (by rw [if_neg (fun q => hy2.neg (Decidable.of_not_not c3) (by omega))])⟩)⟩)⟩)))
  have hp := hx.pos c
  have ha := hz.pos c2
  have hb := hy2.pos c3
  rw [m2] at hp
  rw [m1] at ha hb
  have ew := w3 b hb.1 hb.2
  have hy := fun x h' f' q => hy x h' f' (by rw [if_pos ⟨hp, ha, hb⟩]; exact q)
  refine q_m_isNear hC.T w1 hp.1 hp.2 ha.1 ha.2 hb.1 hb.2 (fun x4 hx4 => ⟨fun c4 => hy _ _ Fr.rf (by rw [if_neg (fun q => hx4.neg c4 (eP_iff.mp q).1)]), fun c4 => q_m_tilesOf hb.1 (by omega) ?_⟩)
  rw [ew.1]
  refine ⟨fun c5 => hy _ _ Fr.rf (by rw [if_neg (fun q => by have := (eP_iff.mp q).2.1; omega)]), fun c5 => q_m_tilesOf hb.1 (by omega) ?_⟩
  rw [ew.1]
  refine q_m_tollOf hC.uu hC.T ⟨w0, w1.1⟩ hp.1 hp.2 hb.1 hb.2 ew.2.1 ew.2.2 (fun h' f' => ⟨fun c6 => hy _ h' (f'.mono (fun _ _ q => Or.inl (Or.inl q))) (by rw [if_neg (fun q => (eP_iff.mp q).2.2 c6)]), fun c6 => hy _ h' (f'.mono (fun _ _ q => Or.inl (Or.inl q))) (by rw [if_pos (eP_iff.mpr ⟨hx4.pos c4, by omega, c6⟩)])⟩)
theorem b_way {p k : Int} (hC : Cp u g h) (hy : ∀ x h', Fr Smw h h' → x = (if (0 ≤ p ∧ p < g u 3) ∧ dP u g p (g 88 p) ≠ wFar then wayV u g p k else -1) → Q x h') : qC tFM (d + 7) k_m_way [282, p, k] h Q := by
  obtain ⟨m0, m1, m2, m3, m4⟩ := hC.many
  obtain ⟨w0, w1, w2, w3, w4, w5, w6⟩ := hC.now
  have n1 := hC.T.1.2.1.2.1
  have n3 := hC.T.1.2.1.2.2.1
  refine qC_intro (T_m_way_0 _ _ _ _ _ _ _ (q_m_isPerson (by omega) (by omega) (fun x hx => ⟨fun c => hy _ _ Fr.rf (by rw [if_neg (fun q => hx.neg c (by omega))]), fun c => ?_⟩)))
  have hp := hx.pos c
  rw [m2] at hp
  obtain ⟨⟨s1, s2⟩, ⟨g1, g2⟩, -, e12, e13⟩ := Nw_at hC.N hp.1 hp.2
  refine q_m_hasWay hC.uu hC.T hC.N hp.1 hp.2 (fun h' f' hW x2 hx2 => ⟨fun c2 => q_m_placeOf hp.1 (by omega) ?_, fun c2 => hy _ h' f' (by rw [if_neg (fun q => hx2.neg (Decidable.of_not_not c2) q.2)])⟩)
  have hf := hx2.pos c2
  have hI := dis_inv n1.2 (wOk_P u g p) g1 g2
  have vs : 0 ≤ (dP u g p (g 88 p)).1 ∧ (dP u g p (g 88 p)).1 ≤ 8991 ∧ 0 ≤ (dP u g p (g 88 p)).2 ∧ (dP u g p (g 88 p)).2 < g u 1 := wInv_fin hI n1.2 s1 s2 hf
  have hy := fun x h' f' q => hy x h' f' (by rw [if_pos ⟨hp, hf⟩]; exact q)
  unfold wayV at hy
  have f329 : ∀ j, h' 329 j = h 329 j := fun j => f' 329 j (by unfold Smw Smc Smt Spm; omega)
  obtain ⟨x1, x2'⟩ := hW.1 (g 88 p) s1 s2
  rw [f329, e12]
  simp only [mmD_iff]
  rw [x2']
  refine ⟨by omega, fun c3 => ⟨fun c4 => q_m_isIn (fun y hy2 => ?_), fun c4 => hy _ h' f' (by rw [if_neg c3, if_pos (Decidable.of_not_not c4)])⟩, fun c3 => q_m_placeOf hp.1 (by omega) ?_⟩
  · rw [mSub_ok (by omega) (by omega)] at hy2
    refine ⟨fun c5 => q_m_placeOf hp.1 (by omega) ?_, fun c5 => hy _ h' f' (by rw [if_neg c3, if_neg c4, if_neg (fun q => hy2.neg (Decidable.of_not_not c5) (by omega))])⟩
    have hk := hy2.pos c5
    rw [f329, e12]
    have key : ∀ (m : Nat) (i : Nat), (i : Int) + m = k + 1 → qB tFM (d + 6) k_m_way (h 0 0) (h 0 1) Q 6 [(3, 282), (1, p), (1, k), (1, (dP u g p (g 88 p)).2), (1, pP u g p i), (1, (i : Int))] [] h' := by
      intro m
      induction m with
      | zero =>
        intro i hi
        refine T_m_way_6 _ _ _ _ _ _ _ _ _ _ ⟨fun _ => hy _ h' f' ?_, fun c => absurd (by omega) c⟩
        rw [if_neg c3, if_neg c4, if_pos (by omega), show k.toNat + 1 = i by omega]
      | succ m ih =>
        intro i hi
        obtain ⟨q1, q2, q3, q4⟩ := pth_ok n1.2 (wOk_P u g p) g1 g2 s1 s2 hf i (by show (i : Int) ≤ (dP u g p (g 88 p)).2; omega)
        have hne : pP u g p i ≠ g 89 p := fun q => by
          have := (pth_last n1.2 (wOk_P u g p) g1 g2 s1 s2 hf (k := i) (by show (i : Int) ≤ (dP u g p (g 88 p)).2; omega)).mp q
          have e2 : (dis (g u 1) (eP u g p) (wP u g p) (g 89 p) (g 88 p)).2 = (dP u g p (g 88 p)).2 := rfl
          omega
        refine T_m_way_6 _ _ _ _ _ _ _ _ _ _ ⟨fun c => absurd c (by omega), fun _ => q_m_nextOf (Tn_Smw f' hC.T) (by rw [f329]; exact w1) ⟨g1, g2⟩ hp.1 hp.2 hW q1 q2 hne q3 ?_⟩
        rw [mAdd_ok (a := (i : Int)) (by omega) (by omega)]
        have := ih (i + 1) (by omega)
        rw [show (((i + 1 : Nat)) : Int) = (i : Int) + 1 by omega] at this
        exact this
    exact key (k + 1).toNat 0 (by omega)
  · rw [f329, e12]
    refine ⟨by omega, hy _ h' f' ?_⟩
    rw [if_pos (Decidable.of_not_not c3)]
    exact x1
end BW
