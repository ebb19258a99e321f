/-! ===== mm: reading tests and sums, class side ===== -/
theorem mayH_ok {o : Int} {g : mmH} (h : mayH o g 3 0 = 0) : o < 6 ∧ mayH o g = g := by
  unfold mayH at h ⊢
  by_cases q : o < 6
  · rw [if_pos q]; exact ⟨q, rfl⟩
  · rw [if_neg q] at h
    unfold flH at h
    by_cases e : g 3 0 ≠ 0
    · rw [if_pos e] at h; exact absurd h e
    · rw [if_neg e, mmS_slot, if_neg (by omega), mmS_slot, if_pos rfl] at h; omega
section RDA
variable {d : Nat} {h : mmH} {Q : Int → mmH → Prop}
theorem pA_pair {inner : mmH → mmH} {o : Int} (o1 : 0 ≤ o) (o2 : o ≤ 6) (hi : ∀ g, Sc 46 g → Sc 46 (inner g)) (hin : o < 6 → ∀ (h : mmH) (Q : Int → mmH → Prop), Sc 46 h → Q 0 (inner h) → qC tFA (d + 6) k_TownText_sum [3, o + 1] h Q) (hS : Sc 46 h) (hy : Q 0 (pairF inner o h)) : qC tFA (d + 7) k_TownText_pair [3, o] h Q := by
  have gS := Sc_sk (by decide) hS
  have mS := Sc_may (o := o) (by decide) gS
  unfold pairF at hy
  refine qC_intro (TA_TownText_pair_0 _ _ _ _ _ _ (pA_skip hS (pA_here gS ⟨fun c => pA_mayOpen (fun x hx => ⟨fun c2 => ?_, fun c2 => ?_⟩), fun c => pA_fail ?_⟩)))
  · rw [if_pos c, if_pos (hx.neg c2)] at hy; exact hy
  · have hm := mayH_ok (hx.pos c2)
    rw [if_pos c, if_neg (fun q => q (hx.pos c2))] at hy
    rw [mAdd_ok (by omega) (by omega)]
    have S1 := Sc_ts (c := 40) (by decide) (by omega) mS
    have S2 := hi _ S1
    have S3 := Sc_ts (c := 44) (by decide) (by omega) S2
    have S4 := hi _ S3
    exact pA_takeSign mS (by omega) (hin hm.1 _ _ S1 (pA_takeSign S2 (by omega) (hin hm.1 _ _ S3 (pA_takeSign S4 (by omega) hy))))
  · rw [if_neg c] at hy; exact hy
theorem pA_part {inner : mmH → mmH} {o : Int} (o1 : 0 ≤ o) (o2 : o ≤ 6) (hi : ∀ g, Sc 46 g → Sc 46 (inner g)) (hin : o < 6 → ∀ (h : mmH) (Q : Int → mmH → Prop), Sc 46 h → Q 0 (inner h) → qC tFA (d + 6) k_TownText_sum [3, o + 1] h Q) (hS : Sc 46 h) (hy : Q 0 (partF 46 inner o h)) : qC tFA (d + 8) k_TownText_part [3, o] h Q := by
  have gS := Sc_sk (by decide) hS
  have mS := Sc_may (o := o) (by decide) gS
  have hr := hrV_ok gS
  unfold partF at hy
  refine qC_intro (TA_TownText_part_0 _ _ _ _ _ _ ⟨fun c => ?_, fun c => ?_⟩)
  · rw [if_neg (fun q => q c)] at hy
    refine pA_wordHere hS (pA_here gS (pA_isDigit (fun x hx => ⟨fun c2 => pA_here gS ?_, fun c2 => pA_number gS (pA_put (Sc_nu (by decide) gS).2.2.2.1.1 ?_)⟩)))
    · rw [if_neg (hx.neg c2)] at hy
      have wo : ∀ w, (w = 27 ∨ w = 28) → wdV (skH h) = w → ¬ hrV (skH h) = 40 → qC tFA (d + 7) k_TownText_passWord [3] (skH h) (fun _ h5 => qC tFA (d + 7) k_TownText_pair [3, o] h5 (fun _ h6 => qC tFA (d + 7) k_Laws_put [79, mAdd 10200 (wdV (skH h))] h6 (fun _ h7 => Q 0 h7))) := by
        intro w hw e c3
        rw [if_neg c3, if_pos (by rcases hw with q | q <;> omega)] at hy
        have S1 := Sc_ps (by decide) gS
        refine pA_passWord gS (pA_pair o1 o2 hi hin S1 (pA_put (Sc_pair (by decide) hi S1).2.2.2.1.1 ?_))
        rw [mAdd_ok (by omega) (by omega)]
        exact hy
      refine ⟨fun c3 => ⟨fun c4 => wo 27 (Or.inl rfl) c4 c3, fun c4 => ⟨fun c5 => pA_isFact (fun y hyy => ⟨fun c6 => pA_fail ?_, fun c6 => pA_passWord gS (pA_put (Sc_ps (by decide) gS).2.2.2.1.1 ?_)⟩), fun c5 => wo 28 (Or.inr rfl) (Decidable.of_not_not c5) c3⟩⟩, fun c3 => pA_mayOpen (fun y hyy => ⟨fun c4 => ?_, fun c4 => ?_⟩)⟩
      · rw [if_neg c3, if_neg (by omega), if_neg (hyy.neg c6)] at hy; exact hy
      · have hw := hyy.pos c6
        rw [if_neg c3, if_neg (by omega), if_pos hw] at hy
        unfold isFc at hw
        rw [decide_eq_true_iff] at hw
        rw [mAdd_ok (by omega) (by omega)]
        exact hy
      · rw [if_pos (Decidable.of_not_not c3), if_pos (hyy.neg c4)] at hy; exact hy
      · have hm := mayH_ok (hyy.pos c4)
        rw [if_pos (Decidable.of_not_not c3), if_neg (fun q => q (hyy.pos c4))] at hy
        rw [mAdd_ok (by omega) (by omega)]
        have S1 := Sc_ts (c := 40) (by decide) (by omega) mS
        have S2 := hi _ S1
        exact pA_takeSign mS (by omega) (qC_le (d := d + 6) (by omega) (hin hm.1 _ _ S1 (pA_takeSign S2 (by omega) hy)))
    · rw [if_pos (hx.pos c2)] at hy; exact hy
  · rw [if_pos c] at hy; exact hy
theorem pA_product {p : mmH → mmH} {o : Int} (hpS : ∀ g, Sc 46 g → Sc 46 (p g)) (hp : ∀ (h : mmH) (Q : Int → mmH → Prop), Sc 46 h → Q 0 (p h) → qC tFA (d + 8) k_TownText_part [3, o] h Q) (hS : Sc 46 h) (hy : Q 0 (lopF 46 p 42 47 1600 (p h))) : qC tFA (d + 9) k_TownText_product [3, o] h Q := by
  refine qC_intro (TA_TownText_product_0 _ _ _ _ _ _ (hp _ _ hS ?_))
  have key : ∀ (m n : Nat) (w : mmV) (g : mmH), n + m = 1600 → Sc 46 g → Q 0 (lopF 46 p 42 47 m g) → qB tFA (d + 8) k_TownText_product (h 0 0) (h 0 1) Q 1 [(3, 3), (1, o), (1, (n : Int)), w] [] g := by
    intro m
    induction m with
    | zero =>
      intro n w g hn gS q
      exact TA_TownText_product_1 _ _ _ _ _ _ _ _ ⟨fun _ => q, fun c => absurd (by omega) c⟩
    | succ m ih =>
      intro n w g hn gS q
      have sS := Sc_sk (by decide : (46 : Int) = 5 ∨ (46 : Int) = 46) gS
      have hr := hrV_ok sS
      unfold lopF at q
      refine TA_TownText_product_1 _ _ _ _ _ _ _ _ ⟨fun c => absurd c (by omega), fun _ => ⟨fun c => ?_, fun c => pA_isHere gS (fun x hx => ⟨fun c2 => ?_, fun c2 => pA_here sS ?_⟩)⟩⟩
      · rw [if_pos c] at q; exact q
      · rw [if_neg c, if_neg (hx.neg c2)] at q; exact q
      · have hc := hx.pos c2
        rw [if_neg c, if_pos hc] at q
        have hl : skH g 3 4 < skH g 3 3 := by
          rcases hc with z | z
          · exact (hrV_lt z (by omega)).1
          · exact (hrV_lt z (by omega)).1
        have s := sS.2.1
        have S1 := Sc_stp (by decide) sS hl
        have S2 := hpS _ S1
        rw [mAdd_ok (a := skH g 3 4) (by omega) (by omega), mAdd_ok (a := 10000) (by omega) (by omega), mAdd_ok (a := (n : Int)) (by omega) (by omega), show (n : Int) + 1 = ((n + 1 : Nat) : Int) by omega]
        exact hp _ _ S1 (pA_put S2.2.2.2.1.1 (ih (n + 1) _ _ (by omega) (Sc_put (by decide) S2) q))
  exact key 1600 0 _ _ (by omega) (hpS _ hS) hy
theorem pA_sum {p : mmH → mmH} {o : Int} (hpS : ∀ g, Sc 46 g → Sc 46 (p g)) (hp : ∀ (h : mmH) (Q : Int → mmH → Prop), Sc 46 h → Q 0 (p h) → qC tFA (d + 8) k_TownText_product [3, o] h Q) (hS : Sc 46 h) (hy : Q 0 (lopF 46 p 43 45 1600 (p h))) : qC tFA (d + 9) k_TownText_sum [3, o] h Q := by
  refine qC_intro (TA_TownText_sum_0 _ _ _ _ _ _ (hp _ _ hS ?_))
  have key : ∀ (m n : Nat) (w : mmV) (g : mmH), n + m = 1600 → Sc 46 g → Q 0 (lopF 46 p 43 45 m g) → qB tFA (d + 8) k_TownText_sum (h 0 0) (h 0 1) Q 1 [(3, 3), (1, o), (1, (n : Int)), w] [] g := by
    intro m
    induction m with
    | zero =>
      intro n w g hn gS q
      exact TA_TownText_sum_1 _ _ _ _ _ _ _ _ ⟨fun _ => q, fun c => absurd (by omega) c⟩
    | succ m ih =>
      intro n w g hn gS q
      have sS := Sc_sk (by decide : (46 : Int) = 5 ∨ (46 : Int) = 46) gS
      have hr := hrV_ok sS
      unfold lopF at q
      refine TA_TownText_sum_1 _ _ _ _ _ _ _ _ ⟨fun c => absurd c (by omega), fun _ => ⟨fun c => ?_, fun c => pA_isHere gS (fun x hx => ⟨fun c2 => ?_, fun c2 => pA_here sS ?_⟩)⟩⟩
      · rw [if_pos c] at q; exact q
      · rw [if_neg c, if_neg (hx.neg c2)] at q; exact q
      · have hc := hx.pos c2
        rw [if_neg c, if_pos hc] at q
        have hl : skH g 3 4 < skH g 3 3 := by
          rcases hc with z | z
          · exact (hrV_lt z (by omega)).1
          · exact (hrV_lt z (by omega)).1
        have s := sS.2.1
        have S1 := Sc_stp (by decide) sS hl
        have S2 := hpS _ S1
        rw [mAdd_ok (a := skH g 3 4) (by omega) (by omega), mAdd_ok (a := 10000) (by omega) (by omega), mAdd_ok (a := (n : Int)) (by omega) (by omega), show (n : Int) + 1 = ((n + 1 : Nat) : Int) by omega]
        exact hp _ _ S1 (pA_put S2.2.2.2.1.1 (ih (n + 1) _ _ (by omega) (Sc_put (by decide) S2) q))
  exact key 1600 0 _ _ (by omega) (hpS _ hS) hy
theorem pA_both {p : mmH → mmH} {o : Int} (hpS : ∀ g, Sc 46 g → Sc 46 (p g)) (hp : ∀ (h : mmH) (Q : Int → mmH → Prop), Sc 46 h → Q 0 (p h) → qC tFA (d + 8) k_TownText_fact [3, o] h Q) (hS : Sc 46 h) (hy : Q 0 (wlpF 46 p 24 10224 1600 (p h))) : qC tFA (d + 9) k_TownText_both [3, o] h Q := by
  refine qC_intro (TA_TownText_both_0 _ _ _ _ _ _ (hp _ _ hS ?_))
  have key : ∀ (m n : Nat) (g : mmH), n + m = 1600 → Sc 46 g → Q 0 (wlpF 46 p 24 10224 m g) → qB tFA (d + 8) k_TownText_both (h 0 0) (h 0 1) Q 1 [(3, 3), (1, o), (1, (n : Int))] [] g := by
    intro m
    induction m with
    | zero =>
      intro n g hn gS q
      exact TA_TownText_both_1 _ _ _ _ _ _ _ ⟨fun _ => q, fun c => absurd (by omega) c⟩
    | succ m ih =>
      intro n g hn gS q
      have sS := Sc_sk (by decide : (46 : Int) = 5 ∨ (46 : Int) = 46) gS
      unfold wlpF at q
      refine TA_TownText_both_1 _ _ _ _ _ _ _ ⟨fun c => absurd c (by omega), fun _ => ⟨fun c => ?_, fun c => pA_wordHere gS ⟨fun c2 => ?_, fun c2 => pA_passWord sS ?_⟩⟩⟩
      · rw [if_pos c] at q; exact q
      · rw [if_neg c, if_neg c2] at q; exact q
      · rw [if_neg c, if_pos (Decidable.of_not_not c2)] at q
        have S1 := Sc_ps (by decide) sS
        have S2 := hpS _ S1
        rw [mAdd_ok (a := (n : Int)) (by omega) (by omega), show (n : Int) + 1 = ((n + 1 : Nat) : Int) by omega]
        exact hp _ _ S1 (pA_put S2.2.2.2.1.1 (ih (n + 1) _ (by omega) (Sc_put (by decide) S2) q))
  exact key 1600 0 _ (by omega) (hpS _ hS) hy
theorem pA_test {p : mmH → mmH} {o : Int} (hpS : ∀ g, Sc 46 g → Sc 46 (p g)) (hp : ∀ (h : mmH) (Q : Int → mmH → Prop), Sc 46 h → Q 0 (p h) → qC tFA (d + 8) k_TownText_both [3, o] h Q) (hS : Sc 46 h) (hy : Q 0 (wlpF 46 p 23 10223 1600 (p h))) : qC tFA (d + 9) k_TownText_test [3, o] h Q := by
  refine qC_intro (TA_TownText_test_0 _ _ _ _ _ _ (hp _ _ hS ?_))
  have key : ∀ (m n : Nat) (g : mmH), n + m = 1600 → Sc 46 g → Q 0 (wlpF 46 p 23 10223 m g) → qB tFA (d + 8) k_TownText_test (h 0 0) (h 0 1) Q 1 [(3, 3), (1, o), (1, (n : Int))] [] g := by
    intro m
    induction m with
    | zero =>
      intro n g hn gS q
      exact TA_TownText_test_1 _ _ _ _ _ _ _ ⟨fun _ => q, fun c => absurd (by omega) c⟩
    | succ m ih =>
      intro n g hn gS q
      have sS := Sc_sk (by decide : (46 : Int) = 5 ∨ (46 : Int) = 46) gS
      unfold wlpF at q
      refine TA_TownText_test_1 _ _ _ _ _ _ _ ⟨fun c => absurd c (by omega), fun _ => ⟨fun c => ?_, fun c => pA_wordHere gS ⟨fun c2 => ?_, fun c2 => pA_passWord sS ?_⟩⟩⟩
      · rw [if_pos c] at q; exact q
      · rw [if_neg c, if_neg c2] at q; exact q
      · rw [if_neg c, if_pos (Decidable.of_not_not c2)] at q
        have S1 := Sc_ps (by decide) sS
        have S2 := hpS _ S1
        rw [mAdd_ok (a := (n : Int)) (by omega) (by omega), show (n : Int) + 1 = ((n + 1 : Nat) : Int) by omega]
        exact hp _ _ S1 (pA_put S2.2.2.2.1.1 (ih (n + 1) _ (by omega) (Sc_put (by decide) S2) q))
  exact key 1600 0 _ (by omega) (hpS _ hS) hy
theorem pA_sm : ∀ (n : Nat) (o : Int) (h : mmH) (Q : Int → mmH → Prop), 7 ≤ n + o → 0 ≤ o → o ≤ 6 → Sc 46 h → Q 0 (smL 46 n o h) → qC tFA (d + 4 * n + 6) k_TownText_sum [3, o] h Q
  | 0, o, _, _, h1, _, h3, _, _ => absurd h1 (by omega)
  | n + 1, o, h, Q, h1, h2, h3, hS, hy => by
    have hv : (46 : Int) = 5 ∨ (46 : Int) = 46 := by decide
    have pS : ∀ g, Sc 46 g → Sc 46 (partF 46 (smL 46 n (o + 1)) o g) := fun _ q => Sc_part hv (Sc_sm hv n (o + 1)) q
    have pp : ∀ (h : mmH) (Q : Int → mmH → Prop), Sc 46 h → Q 0 (partF 46 (smL 46 n (o + 1)) o h) → qC tFA (d + 4 * n + 8) k_TownText_part [3, o] h Q := fun h Q q1 q2 => pA_part (d := d + 4 * n) h2 h3 (Sc_sm hv n (o + 1)) (fun h4 h Q q3 q4 => pA_sm n (o + 1) h Q (by omega) (by omega) (by omega) q3 q4) q1 q2
    exact pA_sum (d := d + 4 * n + 1) (fun _ q => Sc_prd hv pS q) (fun h Q q1 q2 => pA_product (d := d + 4 * n) pS pp q1 q2) hS hy
theorem pA_cmp {sm : mmH → mmH} {o : Int} (hsS : ∀ g, Sc 46 g → Sc 46 (sm g)) (hs : ∀ (h : mmH) (Q : Int → mmH → Prop), Sc 46 h → Q 0 (sm h) → qC tFA (d + 8) k_TownText_sum [3, o] h Q) (hS : Sc 46 h) (hy : Q 0 (cmpF 46 sm h)) : qC tFA (d + 9) k_TownText_comparison [3, o] h Q := by
  have S0 := hsS _ hS
  have sS := Sc_sk (by decide : (46 : Int) = 5 ∨ (46 : Int) = 46) S0
  have hr := hrV_ok sS
  unfold cmpF at hy
  have go : ∀ c, (c = 60 ∨ c = 62 ∨ c = 61) → hrV (skH (sm h)) = c → qB tFA (d + 8) k_TownText_comparison (h 0 0) (h 0 1) Q 1 [(3, 3), (1, o), (1, hrV (skH (sm h)))] [] (skH (sm h)) := by
    intro c hc e
    rw [if_pos (by omega)] at hy
    have hl := (hrV_lt e (by omega)).1
    have s := sS.2.1
    have S1 := Sc_stp (by decide) sS hl
    refine TA_TownText_comparison_1 _ _ _ _ _ _ _ ?_
    rw [mAdd_ok (a := skH (sm h) 3 4) (by omega) (by omega), mAdd_ok (a := 10000) (by omega) (by omega)]
    exact hs _ _ S1 (pA_put (hsS _ S1).2.2.2.1.1 hy)
  refine qC_intro (TA_TownText_comparison_0 _ _ _ _ _ _ (hs _ _ hS (pA_skip S0 (pA_here sS ⟨fun c => go 60 (by omega) c, fun c => ⟨fun c2 => go 62 (by omega) c2, fun c2 => ⟨fun c3 => pA_fail ?_, fun c3 => go 61 (by omega) (Decidable.of_not_not c3)⟩⟩⟩))))
  rw [if_neg (by omega)] at hy
  exact hy
theorem pA_fact {fi ti cm : mmH → mmH} {o : Int} (o1 : 0 ≤ o) (o2 : o ≤ 6) (fS : ∀ g, Sc 46 g → Sc 46 (fi g)) (tS : ∀ g, Sc 46 g → Sc 46 (ti g)) (hf : o < 6 → ∀ (h : mmH) (Q : Int → mmH → Prop), Sc 46 h → Q 0 (fi h) → qC tFA (d + 8) k_TownText_fact [3, o + 1] h Q) (ht : o < 6 → ∀ (h : mmH) (Q : Int → mmH → Prop), Sc 46 h → Q 0 (ti h) → qC tFA (d + 8) k_TownText_test [3, o + 1] h Q)
    (hc : ∀ (h : mmH) (Q : Int → mmH → Prop), Sc 46 h → Q 0 (cm h) → qC tFA (d + 8) k_TownText_comparison [3, o] h Q) (hS : Sc 46 h) (hy : Q 0 (fcF 46 fi ti cm o h)) : qC tFA (d + 9) k_TownText_fact [3, o] h Q := by
  have gS := Sc_sk (by decide) hS
  have mS := Sc_may (o := o) (by decide) gS
  unfold fcF at hy
  refine qC_intro (TA_TownText_fact_0 _ _ _ _ _ _ ⟨fun c => ?_, fun c => ?_⟩)
  · rw [if_neg (fun q => q c)] at hy
    refine pA_wordHere hS ⟨fun c2 => ?_, fun c2 => ?_⟩
    · rw [if_neg c2] at hy
      refine ⟨fun c3 => pA_here gS ⟨fun c4 => ?_, fun c4 => pA_mayOpen (fun y hyy => ⟨fun c5 => ?_, fun c5 => ?_⟩)⟩, fun c3 => pA_passWord gS (pA_put (Sc_ps (by decide) gS).2.2.2.1.1 ?_)⟩
      · rw [if_neg c3, if_neg c4] at hy
        exact hc _ _ gS hy
      · rw [if_neg c3, if_pos (Decidable.of_not_not c4), if_pos (hyy.neg c5)] at hy; exact hy
      · have hm := mayH_ok (hyy.pos c5)
        rw [if_neg c3, if_pos (Decidable.of_not_not c4), if_neg (fun q => q (hyy.pos c5))] at hy
        rw [mAdd_ok (by omega) (by omega)]
        have S1 := Sc_ts (c := 91) (by decide) (by omega) mS
        exact pA_takeSign mS (by omega) (ht hm.1 _ _ S1 (pA_takeSign (tS _ S1) (by omega) hy))
      · rw [if_pos (Decidable.of_not_not c3)] at hy; exact hy
    · rw [if_pos (Decidable.of_not_not c2)] at hy
      refine pA_mayOpen (fun y hyy => ⟨fun c5 => ?_, fun c5 => ?_⟩)
      · rw [if_pos (hyy.neg c5)] at hy; exact hy
      · have hm := mayH_ok (hyy.pos c5)
        rw [if_neg (fun q => q (hyy.pos c5))] at hy
        rw [mAdd_ok (by omega) (by omega)]
        have S1 := Sc_ps (by decide) mS
        exact pA_passWord mS (hf hm.1 _ _ S1 (pA_put (fS _ S1).2.2.2.1.1 hy))
  · rw [if_pos c] at hy; exact hy
theorem pA_fc : ∀ (n : Nat) (o : Int) (h : mmH) (Q : Int → mmH → Prop), 7 ≤ n + o → 0 ≤ o → o ≤ 6 → Sc 46 h → Q 0 (fcL 46 n o h) → qC tFA (d + 3 * n + 40) k_TownText_fact [3, o] h Q
  | 0, o, _, _, h1, _, h3, _, _ => absurd h1 (by omega)
  | n + 1, o, h, Q, h1, h2, h3, hS, hy => by
    have hv : (46 : Int) = 5 ∨ (46 : Int) = 46 := by decide
    have fS := Sc_fc hv n (o + 1)
    have ff : o < 6 → ∀ (h : mmH) (Q : Int → mmH → Prop), Sc 46 h → Q 0 (fcL 46 n (o + 1) h) → qC tFA (d + 3 * n + 40) k_TownText_fact [3, o + 1] h Q := fun q1 h Q q2 q3 => pA_fc n (o + 1) h Q (by omega) (by omega) (by omega) q2 q3
    refine pA_fact (d := d + 3 * n + 34) h2 h3 fS (fun _ q => Sc_te hv fS q) (fun q1 h Q q2 q3 => qC_le (by omega) (ff q1 h Q q2 q3)) (fun q1 h Q q2 q3 => ?_) (fun h Q q2 q3 => ?_) hS hy
    · exact pA_test (d := d + 3 * n + 33) (fun _ q => Sc_bt hv fS q) (fun h Q q1' q2' => pA_both (d := d + 3 * n + 32) fS (fun h Q q4 q5 => ff q1 h Q q4 q5) q1' q2') q2 q3
    · exact qC_le (d := d + 36) (by omega) (pA_cmp (d := d + 27) (Sc_sm hv 7 o) (fun h Q q4 q5 => qC_le (by omega) (pA_sm (d := d) 7 o h Q (by omega) h2 h3 q4 q5)) q2 q3)
/-- a whole test, a whole sum -/
theorem pA_test0 (hS : Sc 46 h) (hy : Q 0 (teF 46 (fcL 46 7 0) h)) : qC tFA (d + 63) k_TownText_test [3, 0] h Q := by
  have hv : (46 : Int) = 5 ∨ (46 : Int) = 46 := by decide
  exact pA_test (d := d + 54) (fun _ q => Sc_bt hv (Sc_fc hv 7 0) q) (fun h Q q1 q2 => pA_both (d := d + 53) (Sc_fc hv 7 0) (fun h Q q4 q5 => pA_fc (d := d) 7 0 h Q (by omega) (by omega) (by omega) q4 q5) q1 q2) hS hy
theorem pA_sum0 (hS : Sc 46 h) (hy : Q 0 (smL 46 7 0 h)) : qC tFA (d + 34) k_TownText_sum [3, 0] h Q := pA_sm (d := d) 7 0 h Q (by omega) (by omega) (by omega) hS hy
end RDA
section RDB
variable {d : Nat} {h : mmH} {Q : Int → mmH → Prop}
theorem pB_pair {inner : mmH → mmH} {o : Int} (o1 : 0 ≤ o) (o2 : o ≤ 6) (hi : ∀ g, Sc 5 g → Sc 5 (inner g)) (hin : o < 6 → ∀ (h : mmH) (Q : Int → mmH → Prop), Sc 5 h → Q 0 (inner h) → qC tFB (d + 6) k_TownText_sum [3, o + 1] h Q) (hS : Sc 5 h) (hy : Q 0 (pairF inner o h)) : qC tFB (d + 7) k_TownText_pair [3, o] h Q := by
  have gS := Sc_sk (by decide) hS
  have mS := Sc_may (o := o) (by decide) gS
  unfold pairF at hy
  refine qC_intro (TB_TownText_pair_0 _ _ _ _ _ _ (pB_skip hS (pB_here gS ⟨fun c => pB_mayOpen (fun x hx => ⟨fun c2 => ?_, fun c2 => ?_⟩), fun c => pB_fail ?_⟩)))
  · rw [if_pos c, if_pos (hx.neg c2)] at hy; exact hy
  · have hm := mayH_ok (hx.pos c2)
    rw [if_pos c, if_neg (fun q => q (hx.pos c2))] at hy
    rw [mAdd_ok (by omega) (by omega)]
    have S1 := Sc_ts (c := 40) (by decide) (by omega) mS
    have S2 := hi _ S1
    have S3 := Sc_ts (c := 44) (by decide) (by omega) S2
    have S4 := hi _ S3
    exact pB_takeSign mS (by omega) (hin hm.1 _ _ S1 (pB_takeSign S2 (by omega) (hin hm.1 _ _ S3 (pB_takeSign S4 (by omega) hy))))
  · rw [if_neg c] at hy; exact hy
theorem pB_part {inner : mmH → mmH} {o : Int} (o1 : 0 ≤ o) (o2 : o ≤ 6) (hi : ∀ g, Sc 5 g → Sc 5 (inner g)) (hin : o < 6 → ∀ (h : mmH) (Q : Int → mmH → Prop), Sc 5 h → Q 0 (inner h) → qC tFB (d + 6) k_TownText_sum [3, o + 1] h Q) (hS : Sc 5 h) (hy : Q 0 (partF 5 inner o h)) : qC tFB (d + 8) k_TownText_part [3, o] h Q := by
  have gS := Sc_sk (by decide) hS
  have mS := Sc_may (o := o) (by decide) gS
  have hr := hrV_ok gS
  unfold partF at hy
  refine qC_intro (TB_TownText_part_0 _ _ _ _ _ _ ⟨fun c => ?_, fun c => ?_⟩)
  · rw [if_neg (fun q => q c)] at hy
    refine pB_wordHere hS (pB_here gS (pB_isDigit (fun x hx => ⟨fun c2 => pB_here gS ?_, fun c2 => pB_number gS (pB_put (Sc_nu (by decide) gS).2.2.2.1.1 ?_)⟩)))
    · rw [if_neg (hx.neg c2)] at hy
      have wo : ∀ w, (w = 27 ∨ w = 28) → wdV (skH h) = w → ¬ hrV (skH h) = 40 → qC tFB (d + 7) k_TownText_passWord [3] (skH h) (fun _ h5 => qC tFB (d + 7) k_TownText_pair [3, o] h5 (fun _ h6 => qC tFB (d + 7) k_Laws_put [38, mAdd 10200 (wdV (skH h))] h6 (fun _ h7 => Q 0 h7))) := by
        intro w hw e c3
        rw [if_neg c3, if_pos (by rcases hw with q | q <;> omega)] at hy
        have S1 := Sc_ps (by decide) gS
        refine pB_passWord gS (pB_pair o1 o2 hi hin S1 (pB_put (Sc_pair (by decide) hi S1).2.2.2.1.1 ?_))
        rw [mAdd_ok (by omega) (by omega)]
        exact hy
      refine ⟨fun c3 => ⟨fun c4 => wo 27 (Or.inl rfl) c4 c3, fun c4 => ⟨fun c5 => pB_isFact (fun y hyy => ⟨fun c6 => pB_fail ?_, fun c6 => pB_passWord gS (pB_put (Sc_ps (by decide) gS).2.2.2.1.1 ?_)⟩), fun c5 => wo 28 (Or.inr rfl) (Decidable.of_not_not c5) c3⟩⟩, fun c3 => pB_mayOpen (fun y hyy => ⟨fun c4 => ?_, fun c4 => ?_⟩)⟩
      · rw [if_neg c3, if_neg (by omega), if_neg (hyy.neg c6)] at hy; exact hy
      · have hw := hyy.pos c6
        rw [if_neg c3, if_neg (by omega), if_pos hw] at hy
        unfold isFc at hw
        rw [decide_eq_true_iff] at hw
        rw [mAdd_ok (by omega) (by omega)]
        exact hy
      · rw [if_pos (Decidable.of_not_not c3), if_pos (hyy.neg c4)] at hy; exact hy
      · have hm := mayH_ok (hyy.pos c4)
        rw [if_pos (Decidable.of_not_not c3), if_neg (fun q => q (hyy.pos c4))] at hy
        rw [mAdd_ok (by omega) (by omega)]
        have S1 := Sc_ts (c := 40) (by decide) (by omega) mS
        have S2 := hi _ S1
        exact pB_takeSign mS (by omega) (qC_le (d := d + 6) (by omega) (hin hm.1 _ _ S1 (pB_takeSign S2 (by omega) hy)))
    · rw [if_pos (hx.pos c2)] at hy; exact hy
  · rw [if_pos c] at hy; exact hy
theorem pB_product {p : mmH → mmH} {o : Int} (hpS : ∀ g, Sc 5 g → Sc 5 (p g)) (hp : ∀ (h : mmH) (Q : Int → mmH → Prop), Sc 5 h → Q 0 (p h) → qC tFB (d + 8) k_TownText_part [3, o] h Q) (hS : Sc 5 h) (hy : Q 0 (lopF 5 p 42 47 1600 (p h))) : qC tFB (d + 9) k_TownText_product [3, o] h Q := by
  refine qC_intro (TB_TownText_product_0 _ _ _ _ _ _ (hp _ _ hS ?_))
  have key : ∀ (m n : Nat) (w : mmV) (g : mmH), n + m = 1600 → Sc 5 g → Q 0 (lopF 5 p 42 47 m g) → qB tFB (d + 8) k_TownText_product (h 0 0) (h 0 1) Q 1 [(3, 3), (1, o), (1, (n : Int)), w] [] g := by
    intro m
    induction m with
    | zero =>
      intro n w g hn gS q
      exact TB_TownText_product_1 _ _ _ _ _ _ _ _ ⟨fun _ => q, fun c => absurd (by omega) c⟩
    | succ m ih =>
      intro n w g hn gS q
      have sS := Sc_sk (by decide : (5 : Int) = 5 ∨ (5 : Int) = 46) gS
      have hr := hrV_ok sS
      unfold lopF at q
      refine TB_TownText_product_1 _ _ _ _ _ _ _ _ ⟨fun c => absurd c (by omega), fun _ => ⟨fun c => ?_, fun c => pB_isHere gS (fun x hx => ⟨fun c2 => ?_, fun c2 => pB_here sS ?_⟩)⟩⟩
      · rw [if_pos c] at q; exact q
      · rw [if_neg c, if_neg (hx.neg c2)] at q; exact q
      · have hc := hx.pos c2
        rw [if_neg c, if_pos hc] at q
        have hl : skH g 3 4 < skH g 3 3 := by
          rcases hc with z | z
          · exact (hrV_lt z (by omega)).1
          · exact (hrV_lt z (by omega)).1
        have s := sS.2.1
        have S1 := Sc_stp (by decide) sS hl
        have S2 := hpS _ S1
        rw [mAdd_ok (a := skH g 3 4) (by omega) (by omega), mAdd_ok (a := 10000) (by omega) (by omega), mAdd_ok (a := (n : Int)) (by omega) (by omega), show (n : Int) + 1 = ((n + 1 : Nat) : Int) by omega]
        exact hp _ _ S1 (pB_put S2.2.2.2.1.1 (ih (n + 1) _ _ (by omega) (Sc_put (by decide) S2) q))
  exact key 1600 0 _ _ (by omega) (hpS _ hS) hy
theorem pB_sum {p : mmH → mmH} {o : Int} (hpS : ∀ g, Sc 5 g → Sc 5 (p g)) (hp : ∀ (h : mmH) (Q : Int → mmH → Prop), Sc 5 h → Q 0 (p h) → qC tFB (d + 8) k_TownText_product [3, o] h Q) (hS : Sc 5 h) (hy : Q 0 (lopF 5 p 43 45 1600 (p h))) : qC tFB (d + 9) k_TownText_sum [3, o] h Q := by
  refine qC_intro (TB_TownText_sum_0 _ _ _ _ _ _ (hp _ _ hS ?_))
  have key : ∀ (m n : Nat) (w : mmV) (g : mmH), n + m = 1600 → Sc 5 g → Q 0 (lopF 5 p 43 45 m g) → qB tFB (d + 8) k_TownText_sum (h 0 0) (h 0 1) Q 1 [(3, 3), (1, o), (1, (n : Int)), w] [] g := by
    intro m
    induction m with
    | zero =>
      intro n w g hn gS q
      exact TB_TownText_sum_1 _ _ _ _ _ _ _ _ ⟨fun _ => q, fun c => absurd (by omega) c⟩
    | succ m ih =>
      intro n w g hn gS q
      have sS := Sc_sk (by decide : (5 : Int) = 5 ∨ (5 : Int) = 46) gS
      have hr := hrV_ok sS
      unfold lopF at q
      refine TB_TownText_sum_1 _ _ _ _ _ _ _ _ ⟨fun c => absurd c (by omega), fun _ => ⟨fun c => ?_, fun c => pB_isHere gS (fun x hx => ⟨fun c2 => ?_, fun c2 => pB_here sS ?_⟩)⟩⟩
      · rw [if_pos c] at q; exact q
      · rw [if_neg c, if_neg (hx.neg c2)] at q; exact q
      · have hc := hx.pos c2
        rw [if_neg c, if_pos hc] at q
        have hl : skH g 3 4 < skH g 3 3 := by
          rcases hc with z | z
          · exact (hrV_lt z (by omega)).1
          · exact (hrV_lt z (by omega)).1
        have s := sS.2.1
        have S1 := Sc_stp (by decide) sS hl
        have S2 := hpS _ S1
        rw [mAdd_ok (a := skH g 3 4) (by omega) (by omega), mAdd_ok (a := 10000) (by omega) (by omega), mAdd_ok (a := (n : Int)) (by omega) (by omega), show (n : Int) + 1 = ((n + 1 : Nat) : Int) by omega]
        exact hp _ _ S1 (pB_put S2.2.2.2.1.1 (ih (n + 1) _ _ (by omega) (Sc_put (by decide) S2) q))
  exact key 1600 0 _ _ (by omega) (hpS _ hS) hy
theorem pB_both {p : mmH → mmH} {o : Int} (hpS : ∀ g, Sc 5 g → Sc 5 (p g)) (hp : ∀ (h : mmH) (Q : Int → mmH → Prop), Sc 5 h → Q 0 (p h) → qC tFB (d + 8) k_TownText_fact [3, o] h Q) (hS : Sc 5 h) (hy : Q 0 (wlpF 5 p 24 10224 1600 (p h))) : qC tFB (d + 9) k_TownText_both [3, o] h Q := by
  refine qC_intro (TB_TownText_both_0 _ _ _ _ _ _ (hp _ _ hS ?_))
  have key : ∀ (m n : Nat) (g : mmH), n + m = 1600 → Sc 5 g → Q 0 (wlpF 5 p 24 10224 m g) → qB tFB (d + 8) k_TownText_both (h 0 0) (h 0 1) Q 1 [(3, 3), (1, o), (1, (n : Int))] [] g := by
    intro m
    induction m with
    | zero =>
      intro n g hn gS q
      exact TB_TownText_both_1 _ _ _ _ _ _ _ ⟨fun _ => q, fun c => absurd (by omega) c⟩
    | succ m ih =>
      intro n g hn gS q
      have sS := Sc_sk (by decide : (5 : Int) = 5 ∨ (5 : Int) = 46) gS
      unfold wlpF at q
      refine TB_TownText_both_1 _ _ _ _ _ _ _ ⟨fun c => absurd c (by omega), fun _ => ⟨fun c => ?_, fun c => pB_wordHere gS ⟨fun c2 => ?_, fun c2 => pB_passWord sS ?_⟩⟩⟩
      · rw [if_pos c] at q; exact q
      · rw [if_neg c, if_neg c2] at q; exact q
      · rw [if_neg c, if_pos (Decidable.of_not_not c2)] at q
        have S1 := Sc_ps (by decide) sS
        have S2 := hpS _ S1
        rw [mAdd_ok (a := (n : Int)) (by omega) (by omega), show (n : Int) + 1 = ((n + 1 : Nat) : Int) by omega]
        exact hp _ _ S1 (pB_put S2.2.2.2.1.1 (ih (n + 1) _ (by omega) (Sc_put (by decide) S2) q))
  exact key 1600 0 _ (by omega) (hpS _ hS) hy
theorem pB_test {p : mmH → mmH} {o : Int} (hpS : ∀ g, Sc 5 g → Sc 5 (p g)) (hp : ∀ (h : mmH) (Q : Int → mmH → Prop), Sc 5 h → Q 0 (p h) → qC tFB (d + 8) k_TownText_both [3, o] h Q) (hS : Sc 5 h) (hy : Q 0 (wlpF 5 p 23 10223 1600 (p h))) : qC tFB (d + 9) k_TownText_test [3, o] h Q := by
  refine qC_intro (TB_TownText_test_0 _ _ _ _ _ _ (hp _ _ hS ?_))
  have key : ∀ (m n : Nat) (g : mmH), n + m = 1600 → Sc 5 g → Q 0 (wlpF 5 p 23 10223 m g) → qB tFB (d + 8) k_TownText_test (h 0 0) (h 0 1) Q 1 [(3, 3), (1, o), (1, (n : Int))] [] g := by
    intro m
    induction m with
    | zero =>
      intro n g hn gS q
      exact TB_TownText_test_1 _ _ _ _ _ _ _ ⟨fun _ => q, fun c => absurd (by omega) c⟩
    | succ m ih =>
      intro n g hn gS q
      have sS := Sc_sk (by decide : (5 : Int) = 5 ∨ (5 : Int) = 46) gS
      unfold wlpF at q
      refine TB_TownText_test_1 _ _ _ _ _ _ _ ⟨fun c => absurd c (by omega), fun _ => ⟨fun c => ?_, fun c => pB_wordHere gS ⟨fun c2 => ?_, fun c2 => pB_passWord sS ?_⟩⟩⟩
      · rw [if_pos c] at q; exact q
      · rw [if_neg c, if_neg c2] at q; exact q
      · rw [if_neg c, if_pos (Decidable.of_not_not c2)] at q
        have S1 := Sc_ps (by decide) sS
        have S2 := hpS _ S1
        rw [mAdd_ok (a := (n : Int)) (by omega) (by omega), show (n : Int) + 1 = ((n + 1 : Nat) : Int) by omega]
        exact hp _ _ S1 (pB_put S2.2.2.2.1.1 (ih (n + 1) _ (by omega) (Sc_put (by decide) S2) q))
  exact key 1600 0 _ (by omega) (hpS _ hS) hy
theorem pB_sm : ∀ (n : Nat) (o : Int) (h : mmH) (Q : Int → mmH → Prop), 7 ≤ n + o → 0 ≤ o → o ≤ 6 → Sc 5 h → Q 0 (smL 5 n o h) → qC tFB (d + 4 * n + 6) k_TownText_sum [3, o] h Q
  | 0, o, _, _, h1, _, h3, _, _ => absurd h1 (by omega)
  | n + 1, o, h, Q, h1, h2, h3, hS, hy => by
    have hv : (5 : Int) = 5 ∨ (5 : Int) = 46 := by decide
    have pS : ∀ g, Sc 5 g → Sc 5 (partF 5 (smL 5 n (o + 1)) o g) := fun _ q => Sc_part hv (Sc_sm hv n (o + 1)) q
    have pp : ∀ (h : mmH) (Q : Int → mmH → Prop), Sc 5 h → Q 0 (partF 5 (smL 5 n (o + 1)) o h) → qC tFB (d + 4 * n + 8) k_TownText_part [3, o] h Q := fun h Q q1 q2 => pB_part (d := d + 4 * n) h2 h3 (Sc_sm hv n (o + 1)) (fun h4 h Q q3 q4 => pB_sm n (o + 1) h Q (by omega) (by omega) (by omega) q3 q4) q1 q2
    exact pB_sum (d := d + 4 * n + 1) (fun _ q => Sc_prd hv pS q) (fun h Q q1 q2 => pB_product (d := d + 4 * n) pS pp q1 q2) hS hy
theorem pB_cmp {sm : mmH → mmH} {o : Int} (hsS : ∀ g, Sc 5 g → Sc 5 (sm g)) (hs : ∀ (h : mmH) (Q : Int → mmH → Prop), Sc 5 h → Q 0 (sm h) → qC tFB (d + 8) k_TownText_sum [3, o] h Q) (hS : Sc 5 h) (hy : Q 0 (cmpF 5 sm h)) : qC tFB (d + 9) k_TownText_comparison [3, o] h Q := by
  have S0 := hsS _ hS
  have sS := Sc_sk (by decide : (5 : Int) = 5 ∨ (5 : Int) = 46) S0
  have hr := hrV_ok sS
  unfold cmpF at hy
  have go : ∀ c, (c = 60 ∨ c = 62 ∨ c = 61) → hrV (skH (sm h)) = c → qB tFB (d + 8) k_TownText_comparison (h 0 0) (h 0 1) Q 1 [(3, 3), (1, o), (1, hrV (skH (sm h)))] [] (skH (sm h)) := by
    intro c hc e
    rw [if_pos (by omega)] at hy
    have hl := (hrV_lt e (by omega)).1
    have s := sS.2.1
    have S1 := Sc_stp (by decide) sS hl
    refine TB_TownText_comparison_1 _ _ _ _ _ _ _ ?_
    rw [mAdd_ok (a := skH (sm h) 3 4) (by omega) (by omega), mAdd_ok (a := 10000) (by omega) (by omega)]
    exact hs _ _ S1 (pB_put (hsS _ S1).2.2.2.1.1 hy)
  refine qC_intro (TB_TownText_comparison_0 _ _ _ _ _ _ (hs _ _ hS (pB_skip S0 (pB_here sS ⟨fun c => go 60 (by omega) c, fun c => ⟨fun c2 => go 62 (by omega) c2, fun c2 => ⟨fun c3 => pB_fail ?_, fun c3 => go 61 (by omega) (Decidable.of_not_not c3)⟩⟩⟩))))
  rw [if_neg (by omega)] at hy
  exact hy
theorem pB_fact {fi ti cm : mmH → mmH} {o : Int} (o1 : 0 ≤ o) (o2 : o ≤ 6) (fS : ∀ g, Sc 5 g → Sc 5 (fi g)) (tS : ∀ g, Sc 5 g → Sc 5 (ti g)) (hf : o < 6 → ∀ (h : mmH) (Q : Int → mmH → Prop), Sc 5 h → Q 0 (fi h) → qC tFB (d + 8) k_TownText_fact [3, o + 1] h Q) (ht : o < 6 → ∀ (h : mmH) (Q : Int → mmH → Prop), Sc 5 h → Q 0 (ti h) → qC tFB (d + 8) k_TownText_test [3, o + 1] h Q)
    (hc : ∀ (h : mmH) (Q : Int → mmH → Prop), Sc 5 h → Q 0 (cm h) → qC tFB (d + 8) k_TownText_comparison [3, o] h Q) (hS : Sc 5 h) (hy : Q 0 (fcF 5 fi ti cm o h)) : qC tFB (d + 9) k_TownText_fact [3, o] h Q := by
  have gS := Sc_sk (by decide) hS
  have mS := Sc_may (o := o) (by decide) gS
  unfold fcF at hy
  refine qC_intro (TB_TownText_fact_0 _ _ _ _ _ _ ⟨fun c => ?_, fun c => ?_⟩)
  · rw [if_neg (fun q => q c)] at hy
    refine pB_wordHere hS ⟨fun c2 => ?_, fun c2 => ?_⟩
    · rw [if_neg c2] at hy
      refine ⟨fun c3 => pB_here gS ⟨fun c4 => ?_, fun c4 => pB_mayOpen (fun y hyy => ⟨fun c5 => ?_, fun c5 => ?_⟩)⟩, fun c3 => pB_passWord gS (pB_put (Sc_ps (by decide) gS).2.2.2.1.1 ?_)⟩
      · rw [if_neg c3, if_neg c4] at hy
        exact hc _ _ gS hy
      · rw [if_neg c3, if_pos (Decidable.of_not_not c4), if_pos (hyy.neg c5)] at hy; exact hy
      · have hm := mayH_ok (hyy.pos c5)
        rw [if_neg c3, if_pos (Decidable.of_not_not c4), if_neg (fun q => q (hyy.pos c5))] at hy
        rw [mAdd_ok (by omega) (by omega)]
        have S1 := Sc_ts (c := 91) (by decide) (by omega) mS
        exact pB_takeSign mS (by omega) (ht hm.1 _ _ S1 (pB_takeSign (tS _ S1) (by omega) hy))
      · rw [if_pos (Decidable.of_not_not c3)] at hy; exact hy
    · rw [if_pos (Decidable.of_not_not c2)] at hy
      refine pB_mayOpen (fun y hyy => ⟨fun c5 => ?_, fun c5 => ?_⟩)
      · rw [if_pos (hyy.neg c5)] at hy; exact hy
      · have hm := mayH_ok (hyy.pos c5)
        rw [if_neg (fun q => q (hyy.pos c5))] at hy
        rw [mAdd_ok (by omega) (by omega)]
        have S1 := Sc_ps (by decide) mS
        exact pB_passWord mS (hf hm.1 _ _ S1 (pB_put (fS _ S1).2.2.2.1.1 hy))
  · rw [if_pos c] at hy; exact hy
theorem pB_fc : ∀ (n : Nat) (o : Int) (h : mmH) (Q : Int → mmH → Prop), 7 ≤ n + o → 0 ≤ o → o ≤ 6 → Sc 5 h → Q 0 (fcL 5 n o h) → qC tFB (d + 3 * n + 40) k_TownText_fact [3, o] h Q
  | 0, o, _, _, h1, _, h3, _, _ => absurd h1 (by omega)
  | n + 1, o, h, Q, h1, h2, h3, hS, hy => by
    have hv : (5 : Int) = 5 ∨ (5 : Int) = 46 := by decide
    have fS := Sc_fc hv n (o + 1)
    have ff : o < 6 → ∀ (h : mmH) (Q : Int → mmH → Prop), Sc 5 h → Q 0 (fcL 5 n (o + 1) h) → qC tFB (d + 3 * n + 40) k_TownText_fact [3, o + 1] h Q := fun q1 h Q q2 q3 => pB_fc n (o + 1) h Q (by omega) (by omega) (by omega) q2 q3
    refine pB_fact (d := d + 3 * n + 34) h2 h3 fS (fun _ q => Sc_te hv fS q) (fun q1 h Q q2 q3 => qC_le (by omega) (ff q1 h Q q2 q3)) (fun q1 h Q q2 q3 => ?_) (fun h Q q2 q3 => ?_) hS hy
    · exact pB_test (d := d + 3 * n + 33) (fun _ q => Sc_bt hv fS q) (fun h Q q1' q2' => pB_both (d := d + 3 * n + 32) fS (fun h Q q4 q5 => ff q1 h Q q4 q5) q1' q2') q2 q3
    · exact qC_le (d := d + 36) (by omega) (pB_cmp (d := d + 27) (Sc_sm hv 7 o) (fun h Q q4 q5 => qC_le (by omega) (pB_sm (d := d) 7 o h Q (by omega) h2 h3 q4 q5)) q2 q3)
/-- a whole test, a whole sum -/
theorem pB_test0 (hS : Sc 5 h) (hy : Q 0 (teF 5 (fcL 5 7 0) h)) : qC tFB (d + 63) k_TownText_test [3, 0] h Q := by
  have hv : (5 : Int) = 5 ∨ (5 : Int) = 46 := by decide
  exact pB_test (d := d + 54) (fun _ q => Sc_bt hv (Sc_fc hv 7 0) q) (fun h Q q1 q2 => pB_both (d := d + 53) (Sc_fc hv 7 0) (fun h Q q4 q5 => pB_fc (d := d) 7 0 h Q (by omega) (by omega) (by omega) q4 q5) q1 q2) hS hy
theorem pB_sum0 (hS : Sc 5 h) (hy : Q 0 (smL 5 7 0 h)) : qC tFB (d + 34) k_TownText_sum [3, 0] h Q := pB_sm (d := d) 7 0 h Q (by omega) (by omega) (by omega) hS hy
end RDB
