/-! ===== mm: reading a text, class side: bytes, words, numbers, names ===== -/
theorem n2A (i : Int) : tFA 2 i = none := by unfold tFA; rw [if_neg (by decide)]; rfl
theorem n2B (i : Int) : tFB 2 i = none := by unfold tFB; rw [if_neg (by decide)]; rfl
theorem sh2 : tSh 2 = (100, 1600) := by decide +kernel
theorem mOr_add {v c : Int} {k : Nat} (hk : k < 6) (v1 : 0 ≤ v) (v2 : v < ((32 ^ k : Nat) : Int)) (c1 : 0 ≤ c) (c2 : c < 32) : mOr v (mShl c (5 * (k : Int))) = v + c * ((32 ^ k : Nat) : Int) := by
  have hp : ∀ k : Fin 6, 32 ^ k.val * 32 ≤ 1073741824 := by decide +kernel
  have hpk := hp ⟨k, hk⟩
  simp only [] at hpk
  have e32 : ((32 ^ k : Nat) : Nat) = 2 ^ (5 * k) := by rw [Nat.pow_mul]
  have hc : c * ((32 ^ k : Nat) : Int) = ((c.toNat * 32 ^ k : Nat) : Int) := by
    rw [Int.natCast_mul]
    rw [show ((c.toNat : Nat) : Int) = c by omega]
  have hle : c.toNat * 32 ^ k ≤ 31 * 32 ^ k := Nat.mul_le_mul_right _ (by omega)
  have hx : v + c * ((32 ^ k : Nat) : Int) = ((v.toNat + c.toNat * 32 ^ k : Nat) : Int) := by rw [hc]; omega
  have hb : v.toNat + c.toNat * 32 ^ k < 1073741824 := by omega
  rw [hx]
  refine tb_ext (InI_or _ _) ⟨by omega, by omega⟩ (fun l l1 l2 => ?_)
  rw [tb_or, tb_shl (by omega) (by omega) l1 l2, tb_nat v1 (by omega) l1 l2, tb_nat (x := ((v.toNat + c.toNat * 32 ^ k : Nat) : Int)) (by omega) (by omega) l1 l2, show ((v.toNat + c.toNat * 32 ^ k : Nat) : Int).toNat = v.toNat + c.toNat * 32 ^ k from rfl]
  have eo : v.toNat + c.toNat * 32 ^ k = c.toNat <<< (5 * k) ||| v.toNat := by
    rw [← Nat.shiftLeft_add_eq_or_of_lt (by rw [← e32]; omega), Nat.shiftLeft_eq, ← e32, Nat.add_comm]
  rw [eo, Nat.testBit_or, Nat.testBit_shiftLeft]
  by_cases q : 5 * (k : Int) ≤ l
  · rw [decide_eq_true q, tb_nat c1 (by omega) (by omega) (by omega), show (l - 5 * (k : Int)).toNat = l.toNat - 5 * k by omega, decide_eq_true (show l.toNat ≥ 5 * k by omega)]
    cases v.toNat.testBit l.toNat <;> simp
  · rw [decide_eq_false q, decide_eq_false (show ¬ l.toNat ≥ 5 * k by omega)]
    cases v.toNat.testBit l.toNat <;> simp
theorem ltrs_len (B : Int → Int) : ∀ (m : Nat) (i : Int), (ltrs B i m).length = m
  | 0, _ => rfl
  | m + 1, i => by unfold ltrs; rw [List.length_cons, ltrs_len B m (i + 1)]
theorem ltrs_mem {B : Int → Int} : ∀ (m : Nat) (i : Int), (∀ j, i ≤ j → j < i + m → isLt (B j) = true) → ∀ x ∈ ltrs B i m, 1 ≤ x ∧ x ≤ 26
  | 0, _, _, x, hx => by unfold ltrs at hx; cases hx
  | m + 1, i, h, x, hx => by
    unfold ltrs at hx
    rcases List.mem_cons.mp hx with q | q
    · have := h i (by omega) (by omega)
      unfold isLt at this
      rw [decide_eq_true_iff] at this
      omega
    · exact ltrs_mem m (i + 1) (fun j j1 j2 => h j (by omega) (by omega)) x q
theorem pk_snoc (B : Int → Int) : ∀ (m : Nat) (i : Int), pk5 (ltrs B i (m + 1)) = pk5 (ltrs B i m) + (B (i + m) - 96) * ((32 ^ m : Nat) : Int)
  | 0, i => by
    show (B i - 96) + 32 * pk5 [] = 0 + (B (i + ((0 : Nat) : Int)) - 96) * ((32 ^ 0 : Nat) : Int)
    rw [show i + ((0 : Nat) : Int) = i by omega, show ((32 ^ 0 : Nat) : Int) = 1 from rfl]
    show (B i - 96) + 32 * 0 = _
    omega
  | m + 1, i => by
    have ih := pk_snoc B m (i + 1)
    show (B i - 96) + 32 * pk5 (ltrs B (i + 1) (m + 1)) = (B i - 96) + 32 * pk5 (ltrs B (i + 1) m) + _
    rw [ih, show i + 1 + (m : Int) = i + ((m + 1 : Nat) : Int) by omega, Nat.pow_succ, Int.natCast_mul]
    generalize ((32 ^ m : Nat) : Int) = z
    rw [Int.mul_add, ← Int.mul_assoc, Int.mul_comm 32 (B _ - 96), Int.mul_assoc, Int.mul_comm 32 z, Int.add_assoc]
    rfl
theorem dgV_snoc (B : Int → Int) : ∀ (m : Nat) (i v : Int), dgV B (m + 1) i v = 10 * dgV B m i v + B (i + m) - 48
  | 0, i, v => by show 10 * v + B i - 48 = 10 * v + B (i + ((0 : Nat) : Int)) - 48; rw [show i + ((0 : Nat) : Int) = i by omega]
  | m + 1, i, v => by
    show dgV B (m + 1) (i + 1) (10 * v + B i - 48) = 10 * dgV B m (i + 1) (10 * v + B i - 48) + _ - 48
    rw [dgV_snoc B m (i + 1), show i + 1 + (m : Int) = i + ((m + 1 : Nat) : Int) by omega]
theorem dgV_ok {B : Int → Int} {i : Int} : ∀ m : Nat, (∀ j, i ≤ j → j < i + m → isDg (B j) = true) → 0 ≤ dgV B m i 0 ∧ dgV B m i 0 < ((10 ^ m : Nat) : Int)
  | 0, _ => by show (0 : Int) ≤ 0 ∧ (0 : Int) < ((10 ^ 0 : Nat) : Int); decide
  | m + 1, h => by
    have ih := dgV_ok m (fun j j1 j2 => h j j1 (by omega))
    have hd := h (i + m) (by omega) (by omega)
    unfold isDg at hd
    rw [decide_eq_true_iff] at hd
    rw [dgV_snoc, Nat.pow_succ]
    omega
theorem p10 : ∀ k : Fin 5, 10 ^ k.val ≤ 10000 := by decide
theorem mmS_row {h : mmH} {k i v a : Int} (ha : a ≠ k) : mmS h k i v a = h a := funext fun b => mmS_cell ha
/-- blanks are behind -/
def skd (g : mmH) : Prop := runT isBk (g 2) (g 3 3) (g 3 4) = g 3 4
theorem mmS_id (g : mmH) (k i : Int) : mmS g k i (g k i) = g := by
  funext a b
  by_cases e : a = k
  · subst e
    rw [mmS_slot]
    by_cases e2 : b = i
    · rw [if_pos e2, e2]
    · rw [if_neg e2]
  · rw [mmS_cell e]
theorem skd_id {g : mmH} (h : skd g) : skH g = g := by
  unfold skH
  rw [h]
  exact mmS_id g 3 4
theorem skd_sk {g : mmH} (h : g 3 4 ≤ g 3 3) : skd (skH g) := by
  unfold skd skH
  rw [mmS_row (by omega), mmS_slot, if_neg (by omega), mmS_slot, if_pos rfl, runT_twice h]
theorem skd_el {g : mmH} {i x : Int} (hi : i ≠ 3 ∧ i ≠ 4) (h : skd g) : skd (mmS g 3 i x) := by
  unfold skd at h ⊢
  rw [mmS_row (by omega), mmS_slot, if_neg (by omega), mmS_slot, if_neg (by omega)]
  exact h
theorem leV_el {g : mmH} {i x : Int} (hi : i ≠ 3 ∧ i ≠ 4) : leV (mmS g 3 i x) = leV g := by
  unfold leV
  rw [mmS_row (by omega), mmS_slot, if_neg (by omega), mmS_slot, if_neg (by omega)]
theorem mmS_mmS (g : mmH) (k i x y : Int) : mmS (mmS g k i x) k i y = mmS g k i y := by
  funext a b
  by_cases e : a = k
  · subst e
    by_cases e2 : b = i
    · rw [mmS_slot, if_pos e2, mmS_slot, if_pos e2]
    · rw [mmS_slot, if_neg e2, mmS_slot, if_neg e2, mmS_slot, if_neg e2]
  · rw [mmS_cell e, mmS_cell e, mmS_cell e]
theorem hrV_at (g : mmH) (a : Int) : hrV (mmS g 3 4 a) = if a < g 3 3 then g 2 a else -1 := by
  have e1 : mmS g 3 4 a 3 4 = a := by rw [mmS_slot, if_pos rfl]
  have e2 : mmS g 3 4 a 3 3 = g 3 3 := by rw [mmS_slot, if_neg (by omega)]
  have e3 : mmS g 3 4 a 2 = g 2 := mmS_row (by omega)
  unfold hrV
  rw [e1, e2, e3]
theorem skH_step {g : mmH} (h : g 3 4 < g 3 3) (q : isBk (g 2 (g 3 4)) = true) : skH (stpH g) = skH g := by
  unfold skH stpH
  rw [mmS_row (by omega), mmS_slot, if_neg (by omega), mmS_slot, if_pos rfl, ← runT_step h q]
  exact mmS_mmS _ _ _ _ _
section SNA
variable {d : Nat} {h : mmH} {Q : Int → mmH → Prop}
theorem pA_skip (hS : Sc 46 h) (hy : Q 0 (skH h)) : qC tFA (d + 1) k_TownText_skipBlanks [3] h Q := by
  refine qC_intro ?_
  have key : ∀ (m : Nat) (g : mmH), Sc 46 g → (g 3 3 - g 3 4).toNat ≤ m → Q 0 (skH g) → qB tFA d k_TownText_skipBlanks (h 0 0) (h 0 1) Q 0 [(3, 3)] [] g := by
    intro m
    induction m with
    | zero =>
      intro g gS hm q
      have e : skH g = g := skd_id (runT_stay (Or.inl (by omega)))
      rw [e] at q
      exact TA_TownText_skipBlanks_0 _ _ _ _ _ ⟨fun _ => q, fun c => absurd (by omega) c⟩
    | succ m ih =>
      intro g gS hm q
      obtain ⟨s1, s2, s3, -⟩ := id gS
      refine TA_TownText_skipBlanks_0 _ _ _ _ _ ⟨fun c => ?_, fun c => ?_⟩
      · have e : skH g = g := skd_id (runT_stay (Or.inl c))
        rw [e] at q
        exact q
      · rw [s1]
        simp only [mmD_iff, mmG_iff, Bool.and_eq_true, Bool.or_eq_true, Nat.beq_refl, true_and, and_true, Option.getD_none, Option.isNone_none, decide_eq_true_eq, lc_lt0, lc_gt0, lc_le0, lc_ge0, lc_eq0, lc_ne0, ite_true, ite_false, n2A, sh2]
        have c' : g 3 4 < g 3 3 := by omega
        have nx : isBk (g 2 (g 3 4)) = true → qB tFA d k_TownText_skipBlanks (h 0 0) (h 0 1) Q 0 [(3, 3)] [] (mmS g 3 4 (mAdd (g 3 4) 1)) := fun hb => by
          rw [mAdd_ok (by omega) (by omega)]
          exact ih (stpH g) (Sc_stp (by decide) gS c') (by unfold stpH; rw [mmS_slot, if_neg (by omega), mmS_slot, if_pos rfl]; omega) (by rw [skH_step c' hb]; exact q)
        refine ⟨by omega, fun c2 => nx (by unfold isBk; rw [decide_eq_true_iff]; exact Or.inl c2), fun c2 => ⟨by omega, fun c3 => ?_, fun c3 => nx (by unfold isBk; rw [decide_eq_true_iff]; omega)⟩⟩
        have e : skH g = g := skd_id (runT_stay (Or.inr (by unfold isBk; rw [decide_eq_false_iff_not]; omega)))
        rw [e] at q
        exact q
  exact key _ h hS (Nat.le_refl _) hy
theorem pA_lettersEnd (hS : Sc 46 h) (hy : Q (leV h) h) : qC tFA (d + 1) k_TownText_lettersEnd [3] h Q := by
  obtain ⟨s1, s2, s3, -⟩ := id hS
  refine qC_intro (TA_TownText_lettersEnd_0 _ _ _ _ _ ?_)
  have key : ∀ (m : Nat) (i : Int), h 3 4 ≤ i → (h 3 3 - i).toNat ≤ m → runT isLt (h 2) (h 3 3) i = leV h → qB tFA d k_TownText_lettersEnd (h 0 0) (h 0 1) Q 1 [(3, 3), (1, i)] [] h := by
    intro m
    induction m with
    | zero =>
      intro i hi hm e
      rw [runT_stay (Or.inl (by omega))] at e
      exact TA_TownText_lettersEnd_1 _ _ _ _ _ _ ⟨fun _ => by rw [e]; exact hy, fun c => absurd (by omega) c⟩
    | succ m ih =>
      intro i hi hm e
      have stop : h 3 3 ≤ i ∨ isLt (h 2 i) = false → Q i h := fun q => by
        rw [runT_stay q] at e
        rw [e]; exact hy
      refine TA_TownText_lettersEnd_1 _ _ _ _ _ _ ⟨fun c => stop (Or.inl c), fun c => ?_⟩
      rw [s1]
      simp only [mmD_iff, mmG_iff, Bool.and_eq_true, Bool.or_eq_true, Nat.beq_refl, true_and, and_true, Option.getD_none, Option.isNone_none, decide_eq_true_eq, lc_lt0, lc_gt0, lc_le0, lc_ge0, lc_eq0, lc_ne0, ite_true, ite_false, n2A, sh2]
      refine ⟨by omega, fun c2 => stop (Or.inr (by unfold isLt; rw [decide_eq_false_iff_not]; omega)), fun c2 => ⟨by omega, fun c3 => stop (Or.inr (by unfold isLt; rw [decide_eq_false_iff_not]; omega)), fun c3 => ?_⟩⟩
      rw [mAdd_ok (by omega) (by omega)]
      refine ih (i + 1) (by omega) (by omega) ?_
      rw [← runT_step (by omega) (by unfold isLt; rw [decide_eq_true_iff]; omega)]
      exact e
  exact key _ (h 3 4) (Int.le_refl _) (Nat.le_refl _) rfl
theorem pA_sticks (hy : ∀ x, YN x (h 3 4 = h 3 6) → Q x h) : qC tFA (d + 1) k_TownText_sticks [3] h Q :=
  qC_intro (TA_TownText_sticks_0 _ _ _ _ _ ⟨fun c => hy _ (YN.no c), fun c => hy _ (YN.yes (Decidable.of_not_not c))⟩)
theorem pA_here (hS : Sc 46 h) (hy : Q (hrV h) h) : qC tFA (d + 1) k_TownText_here [3] h Q := by
  obtain ⟨s1, s2, s3, -⟩ := id hS
  unfold hrV at hy
  refine qC_intro (TA_TownText_here_0 _ _ _ _ _ ⟨fun c => ?_, fun c => ?_⟩)
  · rw [if_neg (by omega)] at hy; exact hy
  · rw [if_pos (by omega)] at hy
    rw [s1]
    simp only [mmD_iff, mmG_iff, Bool.and_eq_true, Bool.or_eq_true, Nat.beq_refl, true_and, and_true, Option.getD_none, Option.isNone_none, decide_eq_true_eq, lc_lt0, lc_gt0, lc_le0, lc_ge0, lc_eq0, lc_ne0, ite_true, ite_false, n2A, sh2]
    exact ⟨by omega, hy⟩
theorem pA_isDigit {c : Int} (hy : ∀ x, YN x (isDg c = true) → Q x h) : qC tFA (d + 1) k_TownText_isDigit [c] h Q := by
  refine qC_intro (TA_TownText_isDigit_0 _ _ _ _ _ _ ⟨fun q => hy _ (YN.no ?_), fun q => ⟨fun q2 => hy _ (YN.no ?_), fun q2 => hy _ (YN.yes ?_)⟩⟩) <;> unfold isDg <;> rw [decide_eq_true_iff] <;> omega
theorem pA_fail {w p : Int} (hy : Q 0 (flH w p h)) : qC tFA (d + 1) k_TownText_fail [3, w, p] h Q := by
  unfold flH at hy
  refine qC_intro (TA_TownText_fail_0 _ _ _ _ _ _ _ ⟨fun c => ?_, fun c => ?_⟩)
  · rw [if_pos c] at hy; exact hy
  · rw [if_neg c] at hy; exact hy
theorem pA_passWord (hS : Sc 46 h) (hy : Q 0 (psH h)) : qC tFA (d + 2) k_TownText_passWord [3] h Q :=
  qC_intro (TA_TownText_passWord_0 _ _ _ _ _ (pA_lettersEnd hS hy))
theorem pA_packed {e : Int} (hS : Sc 46 h) (e1 : h 3 4 ≤ e) (e2 : e ≤ h 3 3) (e3 : e - h 3 4 ≤ 6) (hl : ∀ j, h 3 4 ≤ j → j < e → isLt (h 2 j) = true) (hy : Q (pk5 (ltrs (h 2) (h 3 4) (e - h 3 4).toNat)) h) : qC tFA (d + 1) k_TownText_packed [3, h 3 4, e] h Q := by
  obtain ⟨s1, s2, s3, -⟩ := id hS
  refine qC_intro (TA_TownText_packed_0 _ _ _ _ _ _ _ ?_)
  have key : ∀ (j k : Nat), (k : Int) + j = e - h 3 4 → qB tFA d k_TownText_packed (h 0 0) (h 0 1) Q 1 [(3, 3), (1, h 3 4), (1, e), (1, pk5 (ltrs (h 2) (h 3 4) k)), (1, h 3 4 + (k : Int))] [] h := by
    intro j
    induction j with
    | zero =>
      intro k hk
      rw [show (e - h 3 4).toNat = k by omega] at hy
      exact TA_TownText_packed_1 _ _ _ _ _ _ _ _ _ ⟨fun _ => hy, fun c => absurd (by omega) c⟩
    | succ j ih =>
      intro k hk
      have hlk := hl (h 3 4 + (k : Int)) (by omega) (by omega)
      unfold isLt at hlk
      rw [decide_eq_true_iff] at hlk
      have hm := ltrs_mem (B := h 2) k (h 3 4) (fun i i1 i2 => hl i i1 (by omega))
      have hp := pk5_nn (ltrs (h 2) (h 3 4) k) (fun x hx => by have := hm x hx; omega)
      rw [ltrs_len] at hp
      refine TA_TownText_packed_1 _ _ _ _ _ _ _ _ _ ⟨fun c => absurd c (by omega), fun _ => ⟨fun c => absurd c (by omega), fun _ => ?_⟩⟩
      rw [s1]
      simp only [mmD_iff, mmG_iff, Bool.and_eq_true, Bool.or_eq_true, Nat.beq_refl, true_and, and_true, Option.getD_none, Option.isNone_none, decide_eq_true_eq, lc_lt0, lc_gt0, lc_le0, lc_ge0, lc_eq0, lc_ne0, ite_true, ite_false, n2A, sh2]
      refine ⟨by omega, ?_⟩
      rw [mSub_ok (b := 97) (by omega) (by omega), mAdd_ok (b := 1) (by omega) (by omega), mSub_ok (b := h 3 4) (by omega) (by omega), show h 3 4 + (k : Int) - h 3 4 = (k : Int) by omega, mMul_ok (by omega) (by omega), mAdd_ok (b := 1) (by omega) (by omega), show h 2 (h 3 4 + (k : Int)) - 97 + 1 = h 2 (h 3 4 + (k : Int)) - 96 by omega, mOr_add (by omega) hp.1 hp.2 (by omega) (by omega), ← pk_snoc, show h 3 4 + (k : Int) + 1 = h 3 4 + ((k + 1 : Nat) : Int) by omega]
      exact ih (k + 1) (by omega)
  have := key (e - h 3 4).toNat 0 (by omega)
  rw [show h 3 4 + ((0 : Nat) : Int) = h 3 4 by omega] at this
  exact this
theorem pA_wordHere (hS : Sc 46 h) (hy : Q (wdV (skH h)) (skH h)) : qC tFA (d + 2) k_TownText_wordHere [3] h Q := by
  have gS := Sc_sk (by decide) hS
  refine qC_intro (TA_TownText_wordHere_0 _ _ _ _ _ (pA_skip hS ?_))
  generalize hg : skH h = g at hy gS ⊢
  have hle := leV_ge gS
  unfold wdV at hy
  refine pA_lettersEnd gS ⟨fun c => ?_, fun c => ?_⟩
  · rw [if_pos (Or.inl c)] at hy; exact hy
  · rw [mSub_ok (by have := gS.2.1; omega) (by have := gS.2.1; omega)]
    refine ⟨fun c2 => ?_, fun c2 => pA_sticks (fun x hx => ⟨fun c3 => pA_packed gS hle.1 hle.2 (by omega) (fun j j1 j2 => runT_all j1 j2) ?_, fun c3 => ?_⟩)⟩
    · rw [if_pos (Or.inr (Or.inl c2))] at hy; exact hy
    · rw [if_neg (fun q => by rcases q with q | q | q; exact c q; exact c2 q; exact hx.neg c3 q)] at hy
      have key : ∀ (j k : Nat), k + j = 29 → plcE (g 45) (pkV g) 29 0 = plcE (g 45) (pkV g) j (k : Int) → qB tFA (d + 1) k_TownText_wordHere (h 0 0) (h 0 1) Q 3 [(3, 3), (1, leV g), (1, pkV g), (1, (k : Int))] [] g := by
        intro j
        induction j with
        | zero =>
          intro k hk e
          refine TA_TownText_wordHere_3 _ _ _ _ _ _ _ _ ⟨fun _ => ?_, fun c => absurd (by omega) c⟩
          rw [e] at hy
          exact hy
        | succ j ih =>
          intro k hk e
          have e : plcE (g 45) (pkV g) 29 0 = (if g 45 (k : Int) = pkV g then (k : Int) else plcE (g 45) (pkV g) j ((k : Int) + 1)) := e
          refine TA_TownText_wordHere_3 _ _ _ _ _ _ _ _ ⟨fun c => absurd c (by omega), fun _ => mmD_of (by omega) ⟨fun c5 => ?_, fun c5 => ?_⟩⟩
          · rw [if_neg c5] at e
            rw [mAdd_ok (by omega) (by omega), show (k : Int) + 1 = ((k + 1 : Nat) : Int) by omega]
            exact ih (k + 1) (by omega) e
          · rw [if_pos (Decidable.of_not_not c5)] at e
            rw [e] at hy
            exact hy
      exact key 29 0 (by omega) rfl
    · rw [if_pos (Or.inr (Or.inr (hx.pos c3)))] at hy; exact hy
theorem pA_takeWord {w : Int} (hS : Sc 46 h) (hy : Q 0 (twH w h)) : qC tFA (d + 3) k_TownText_takeWord [3, w] h Q := by
  unfold twH at hy
  refine qC_intro (TA_TownText_takeWord_0 _ _ _ _ _ _ (pA_wordHere hS ⟨fun c => pA_fail ?_, fun c => pA_passWord (Sc_sk (by decide) hS) ?_⟩))
  · rw [if_neg c] at hy; exact hy
  · rw [if_pos (Decidable.of_not_not c)] at hy; exact hy
theorem pA_takeSign {c : Int} (hS : Sc 46 h) (hc : c ≠ -1) (hy : Q 0 (tsH c h)) : qC tFA (d + 2) k_TownText_takeSign [3, c] h Q := by
  have gS := Sc_sk (by decide) hS
  unfold tsH at hy
  refine qC_intro (TA_TownText_takeSign_0 _ _ _ _ _ _ (pA_skip hS (pA_here gS ⟨fun q => pA_fail ?_, fun q => ?_⟩)))
  · rw [if_neg q] at hy; exact hy
  · have q' := Decidable.of_not_not q
    have hl := hrV_lt q' hc
    have s := gS.2.1
    rw [if_pos q'] at hy
    rw [mAdd_ok (by omega) (by omega)]
    exact hy
theorem pA_isHere {a b : Int} (hS : Sc 46 h) (hy : ∀ x, YN x (hrV (skH h) = a ∨ hrV (skH h) = b) → Q x (skH h)) : qC tFA (d + 2) k_TownText_isHere [3, a, b] h Q := by
  have gS := Sc_sk (by decide) hS
  exact qC_intro (TA_TownText_isHere_0 _ _ _ _ _ _ _ (pA_skip hS (pA_here gS ⟨fun c => hy _ (YN.yes (Or.inl c)), fun c => pA_here gS ⟨fun c2 => hy _ (YN.no (by omega)), fun c2 => hy _ (YN.yes (by omega))⟩⟩)))
theorem pA_refuse {a : Int} {b : Bool} (hb : b = true ↔ a ≠ 0) (hy : Q 0 (rfH b h)) : qC tFA (d + 2) k_TownText_refuseNameIf [3, a] h Q := by
  unfold rfH at hy
  refine qC_intro (TA_TownText_refuseNameIf_0 _ _ _ _ _ _ ⟨fun c => ?_, fun c => pA_fail ?_⟩)
  · rw [if_neg (fun q => hb.mp q c)] at hy; exact hy
  · rw [if_pos (hb.mpr c)] at hy; exact hy
theorem pA_mayOpen {o : Int} (hy : ∀ x, YN x (mayH o h 3 0 = 0) → Q x (mayH o h)) : qC tFA (d + 2) k_TownText_mayOpen [3, o] h Q := by
  refine qC_intro (TA_TownText_mayOpen_0 _ _ _ _ _ _ ⟨fun c => ?_, fun c => pA_fail ?_⟩)
  · unfold mayH at hy
    rw [if_pos c] at hy
    exact ⟨fun c2 => hy _ (YN.no c2), fun c2 => hy _ (YN.yes (Decidable.of_not_not c2))⟩
  · unfold mayH at hy
    rw [if_neg c] at hy
    exact ⟨fun c2 => hy _ (YN.no c2), fun c2 => hy _ (YN.yes (Decidable.of_not_not c2))⟩
theorem pA_isFact {w : Int} (hy : ∀ x, YN x (isFc w = true) → Q x h) : qC tFA (d + 1) k_TownText_isFactWord [w] h Q := by
  refine qC_intro (TA_TownText_isFactWord_0 _ _ _ _ _ _ ⟨fun c => hy _ (YN.yes ?_), fun c => ⟨fun c2 => hy _ (YN.yes ?_), fun c2 => ⟨fun c3 => hy _ (YN.yes ?_), fun c3 => ⟨fun c4 => hy _ (YN.yes ?_), fun c4 => ⟨fun c5 => hy _ (YN.no ?_), fun c5 => hy _ (YN.yes ?_)⟩⟩⟩⟩⟩) <;> unfold isFc <;> rw [decide_eq_true_iff] <;> omega
theorem pA_put {t : Int} (h1 : 0 ≤ h 79 1) (hy : Q 0 (putT 46 t h)) : qC tFA (d + 1) k_Laws_put [79, t] h Q := by
  unfold putT at hy
  simp only [Int.reduceAdd] at hy
  refine qC_intro (TA79_Laws_put_0 _ _ _ _ _ _ ⟨fun c => ?_, fun c => ?_⟩)
  · rw [if_neg (by omega)] at hy; exact hy
  · rw [if_pos (by omega)] at hy
    rw [mmD_iff, mAdd_ok (by omega) (by omega)]
    exact ⟨by omega, hy⟩
theorem pA_number {lo hi : Int} (hS : Sc 46 h) (hy : Q (nuV (skH h)) (nuH lo hi h)) : qC tFA (d + 2) k_TownText_number [3, lo, hi] h Q := by
  have gS := Sc_sk (by decide) hS
  unfold nuH at hy
  refine qC_intro (TA_TownText_number_0 _ _ _ _ _ _ _ (pA_skip hS ?_))
  generalize hg : skH h = g at hy gS ⊢
  have s := gS.2.1
  have ge := nuE_ge gS
  refine pA_sticks (fun st hst => ?_)
  -- the digits
  have M : ∃ m : Nat, nuE g = runE isDg (g 2) m (g 3 4) ∧ (m : Int) ≤ g 3 3 - g 3 4 ∧ m ≤ 4 ∧ (m = 4 ∨ (m : Int) = g 3 3 - g 3 4) := by
    refine ⟨if g 3 3 - g 3 4 < 4 then (g 3 3 - g 3 4).toNat else 4, rfl, ?_, ?_, ?_⟩ <;> split <;> omega
  obtain ⟨m, hm, m1, m2, m3⟩ := M
  have fin : ∀ k : Nat, g 3 4 + (k : Int) = nuE g → qB tFA (d + 1) k_TownText_number (h 0 0) (h 0 1) Q 2 [(3, 3), (1, lo), (1, hi), (1, g 3 4), (1, st), (1, dgV (g 2) k (g 3 4) 0), (1, (k : Int))] [] (mmS g 3 4 (g 3 4 + k)) := by
    intro k hk
    have ev : nuV g = dgV (g 2) k (g 3 4) 0 := by unfold nuV; rw [← hk, show (g 3 4 + (k : Int) - g 3 4).toNat = k by omega]
    have eT : mmS (mmS g 3 4 (g 3 4 + k)) 3 6 (mmS g 3 4 (g 3 4 + k) 3 4) = nuT g := by unfold nuT; rw [mmS_slot, if_pos rfl, hk]
    have TS := Sc_nuT (by decide : (46 : Int) = 5 ∨ (46 : Int) = 46) gS
    have T4 : nuT g 3 4 = nuE g := by unfold nuT; rw [mmS_slot, if_neg (by omega), mmS_slot, if_pos rfl]
    unfold nuF at hy
    refine TA_TownText_number_2 _ _ _ _ _ _ _ _ _ _ _ ?_
    rw [eT, ← ev]
    rw [mmS_slot, if_pos rfl]
    refine ⟨fun c => pA_fail ?_, fun c => ⟨fun c2 => pA_here TS (pA_isDigit (fun z hz => ⟨fun c3 => ⟨fun c4 => pA_fail ?_, fun c4 => ⟨fun c5 => ?_, fun c5 => pA_fail ?_⟩⟩, fun c3 => ?_⟩)), fun c2 => pA_fail ?_⟩⟩
    · rw [if_pos (Or.inl (by omega))] at hy; exact hy
    · rw [if_neg (fun q => by rcases q with q | q; omega; exact hst.neg c2 q), if_neg (hz.neg c3), if_pos (Or.inl c4)] at hy; exact hy
    · rw [if_neg (fun q => by rcases q with q | q; omega; exact hst.neg c2 q), if_neg (hz.neg c3), if_neg (by omega)] at hy; exact hy
    · rw [if_neg (fun q => by rcases q with q | q; omega; exact hst.neg c2 q), if_neg (hz.neg c3), if_pos (Or.inr (by omega))] at hy; exact hy
    · rw [if_neg (fun q => by rcases q with q | q; omega; exact hst.neg c2 q), if_pos (hz.pos c3)] at hy
      rw [T4]
      exact pA_fail hy
    · rw [if_pos (Or.inr (hst.pos c2))] at hy; exact hy
  have key : ∀ (j k : Nat), k + j = m → (∀ i, g 3 4 ≤ i → i < g 3 4 + (k : Int) → isDg (g 2 i) = true) → nuE g = runE isDg (g 2) j (g 3 4 + (k : Int)) → qB tFA (d + 1) k_TownText_number (h 0 0) (h 0 1) Q 1 [(3, 3), (1, lo), (1, hi), (1, g 3 4), (1, st), (1, dgV (g 2) k (g 3 4) 0), (1, (k : Int))] [] (mmS g 3 4 (g 3 4 + k)) := by
    intro j
    induction j with
    | zero =>
      intro k hk hd e
      unfold runE at e
      have fk := fin k e.symm
      refine TA_TownText_number_1 _ _ _ _ _ _ _ _ _ _ _ ⟨fun _ => fk, fun c => pA_here (Sc_at (by decide) gS (by omega) (by omega)) (pA_isDigit (fun x hx => ⟨fun _ => fk, fun c2 => ?_⟩))⟩
      have := hx.pos c2
      rw [hrV_at, if_neg (by omega)] at this
      exact absurd this (by decide)
    | succ j ih =>
      intro k hk hd e
      have hS2 := Sc_at (a := g 3 4 + (k : Int)) (by decide : (46 : Int) = 5 ∨ (46 : Int) = 46) gS (by omega) (by omega)
      have hr : hrV (mmS g 3 4 (g 3 4 + (k : Int))) = g 2 (g 3 4 + (k : Int)) := by
        rw [hrV_at, if_pos (by omega)]
      refine TA_TownText_number_1 _ _ _ _ _ _ _ _ _ _ _ ⟨fun c => absurd c (by omega), fun c => pA_here hS2 (pA_isDigit (fun x hx => ⟨fun c2 => ?_, fun c2 => pA_here hS2 ?_⟩))⟩
      · rw [hr] at hx
        unfold runE at e
        rw [if_neg (hx.neg c2)] at e
        exact fin k e.symm
      · rw [hr] at hx ⊢
        have hdk := hx.pos c2
        have hd2 := hdk
        unfold isDg at hd2
        rw [decide_eq_true_iff] at hd2
        have vb := dgV_ok (B := g 2) (i := g 3 4) k hd
        have p10k := p10 ⟨k, by omega⟩
        simp only [] at p10k
        unfold runE at e
        rw [if_pos hdk, show g 3 4 + (k : Int) + 1 = g 3 4 + ((k + 1 : Nat) : Int) by omega] at e
        rw [mMul_ok (by omega) (by omega), mAdd_ok (b := g 2 (g 3 4 + (k : Int))) (by omega) (by omega), mSub_ok (by omega) (by omega), ← dgV_snoc, mAdd_ok (a := (k : Int)) (by omega) (by omega), mmS_slot, if_pos rfl, mAdd_ok (by omega) (by omega), show (k : Int) + 1 = ((k + 1 : Nat) : Int) by omega, show g 3 4 + (k : Int) + 1 = g 3 4 + ((k + 1 : Nat) : Int) by omega]
        have e2 : mmS (mmS g 3 4 (g 3 4 + (k : Int))) 3 4 (g 3 4 + ((k + 1 : Nat) : Int)) = mmS g 3 4 (g 3 4 + ((k + 1 : Nat) : Int)) := mmS_mmS _ _ _ _ _
        rw [e2]
        refine ih (k + 1) (by omega) (fun i i1 i2 => ?_) e
        by_cases q : i = g 3 4 + (k : Int)
        · rw [q]; exact hdk
        · exact hd i i1 (by omega)
  have := key m 0 (by omega) (fun i i1 i2 => absurd i2 (by omega)) (by rw [hm, show g 3 4 + ((0 : Nat) : Int) = g 3 4 by omega])
  rw [show g 3 4 + ((0 : Nat) : Int) = g 3 4 by omega, mmS_id] at this
  exact this
theorem pA_name (hS : Sc 46 h) (hy : Q (nmX h) (nmH h)) : qC tFA (d + 3) k_TownText_name [3] h Q := by
  have gS := Sc_sk (by decide) hS
  have nS := Sc_nmS (by decide) hS
  have hd : skd (nmS h) := skd_el (by omega) (skd_sk hS.2.1.2.1)
  have e4 : nmS h 3 4 = skH h 3 4 := by unfold nmS; rw [mmS_slot, if_neg (by omega)]
  have eL : leV (nmS h) = leV (skH h) := leV_el (by omega)
  refine qC_intro (TA_TownText_name_0 _ _ _ _ _ (pA_skip hS (pA_lettersEnd gS ?_)))
  rw [show mmS (skH h) 3 5 (skH h 3 4) = nmS h from rfl, ← eL, ← e4]
  unfold nmH nmX at hy
  generalize hg : nmS h = g at hy nS hd ⊢
  have s := nS.2.1
  have hle := leV_ge nS
  have no : ¬ nmB g = true → Q 0 (if leV g = g 3 4 ∨ g 3 4 = g 3 6 then flH 1 (g 3 4) g else if 6 < leV g - g 3 4 then flH 1 (g 3 4 + 6) g else flH 1 (g 3 4) g) := fun q => by
    unfold nmF at hy
    rw [if_neg q, if_neg q] at hy
    exact hy
  refine ⟨fun c => pA_fail ?_, fun c => pA_sticks (fun x hx => ⟨fun c2 => ?_, fun c2 => pA_fail ?_⟩)⟩
  · have := no (fun q => by unfold nmB at q; rw [decide_eq_true_iff] at q; exact q.1 (Or.inl c))
    rw [if_pos (Or.inl c)] at this; exact this
  · have n1 : ¬ (leV g = g 3 4 ∨ g 3 4 = g 3 6) := fun q => by rcases q with q | q; exact c q; exact hx.neg c2 q
    rw [mSub_ok (by omega) (by omega)]
    refine ⟨fun c3 => pA_wordHere nS ?_, fun c3 => ?_⟩
    · rw [skd_id hd]
      refine ⟨fun c4 => pA_packed nS hle.1 hle.2 c3 (fun j j1 j2 => runT_all j1 j2) (pA_passWord nS ?_), fun c4 => pA_fail ?_⟩
      · have hb : nmB g = true := by unfold nmB; rw [decide_eq_true_iff]; exact ⟨n1, by omega, c4⟩
        unfold nmF at hy
        rw [if_pos hb, if_pos hb] at hy
        exact hy
      · have := no (fun q => by unfold nmB at q; rw [decide_eq_true_iff] at q; exact c4 q.2.2)
        rw [if_neg n1, if_neg (by omega)] at this; exact this
    · have := no (fun q => by unfold nmB at q; rw [decide_eq_true_iff] at q; exact q.2.1 (by omega))
      rw [if_neg n1, if_pos (by omega)] at this
      rw [mAdd_ok (by omega) (by omega)]
      exact pA_fail this
  · have := no (fun q => by unfold nmB at q; rw [decide_eq_true_iff] at q; exact q.1 (Or.inr (hx.pos c2)))
    rw [if_pos (Or.inr (hx.pos c2))] at this; exact this
end SNA
section SNB
variable {d : Nat} {h : mmH} {Q : Int → mmH → Prop}
theorem pB_skip (hS : Sc 5 h) (hy : Q 0 (skH h)) : qC tFB (d + 1) k_TownText_skipBlanks [3] h Q := by
  refine qC_intro ?_
  have key : ∀ (m : Nat) (g : mmH), Sc 5 g → (g 3 3 - g 3 4).toNat ≤ m → Q 0 (skH g) → qB tFB d k_TownText_skipBlanks (h 0 0) (h 0 1) Q 0 [(3, 3)] [] g := by
    intro m
    induction m with
    | zero =>
      intro g gS hm q
      have e : skH g = g := skd_id (runT_stay (Or.inl (by omega)))
      rw [e] at q
      exact TB_TownText_skipBlanks_0 _ _ _ _ _ ⟨fun _ => q, fun c => absurd (by omega) c⟩
    | succ m ih =>
      intro g gS hm q
      obtain ⟨s1, s2, s3, -⟩ := id gS
      refine TB_TownText_skipBlanks_0 _ _ _ _ _ ⟨fun c => ?_, fun c => ?_⟩
      · have e : skH g = g := skd_id (runT_stay (Or.inl c))
        rw [e] at q
        exact q
      · rw [s1]
        simp only [mmD_iff, mmG_iff, Bool.and_eq_true, Bool.or_eq_true, Nat.beq_refl, true_and, and_true, Option.getD_none, Option.isNone_none, decide_eq_true_eq, lc_lt0, lc_gt0, lc_le0, lc_ge0, lc_eq0, lc_ne0, ite_true, ite_false, n2B, sh2]
        have c' : g 3 4 < g 3 3 := by omega
        have nx : isBk (g 2 (g 3 4)) = true → qB tFB d k_TownText_skipBlanks (h 0 0) (h 0 1) Q 0 [(3, 3)] [] (mmS g 3 4 (mAdd (g 3 4) 1)) := fun hb => by
          rw [mAdd_ok (by omega) (by omega)]
          exact ih (stpH g) (Sc_stp (by decide) gS c') (by unfold stpH; rw [mmS_slot, if_neg (by omega), mmS_slot, if_pos rfl]; omega) (by rw [skH_step c' hb]; exact q)
        refine ⟨by omega, fun c2 => nx (by unfold isBk; rw [decide_eq_true_iff]; exact Or.inl c2), fun c2 => ⟨by omega, fun c3 => ?_, fun c3 => nx (by unfold isBk; rw [decide_eq_true_iff]; omega)⟩⟩
        have e : skH g = g := skd_id (runT_stay (Or.inr (by unfold isBk; rw [decide_eq_false_iff_not]; omega)))
        rw [e] at q
        exact q
  exact key _ h hS (Nat.le_refl _) hy
theorem pB_lettersEnd (hS : Sc 5 h) (hy : Q (leV h) h) : qC tFB (d + 1) k_TownText_lettersEnd [3] h Q := by
  obtain ⟨s1, s2, s3, -⟩ := id hS
  refine qC_intro (TB_TownText_lettersEnd_0 _ _ _ _ _ ?_)
  have key : ∀ (m : Nat) (i : Int), h 3 4 ≤ i → (h 3 3 - i).toNat ≤ m → runT isLt (h 2) (h 3 3) i = leV h → qB tFB d k_TownText_lettersEnd (h 0 0) (h 0 1) Q 1 [(3, 3), (1, i)] [] h := by
    intro m
    induction m with
    | zero =>
      intro i hi hm e
      rw [runT_stay (Or.inl (by omega))] at e
      exact TB_TownText_lettersEnd_1 _ _ _ _ _ _ ⟨fun _ => by rw [e]; exact hy, fun c => absurd (by omega) c⟩
    | succ m ih =>
      intro i hi hm e
      have stop : h 3 3 ≤ i ∨ isLt (h 2 i) = false → Q i h := fun q => by
        rw [runT_stay q] at e
        rw [e]; exact hy
      refine TB_TownText_lettersEnd_1 _ _ _ _ _ _ ⟨fun c => stop (Or.inl c), fun c => ?_⟩
      rw [s1]
      simp only [mmD_iff, mmG_iff, Bool.and_eq_true, Bool.or_eq_true, Nat.beq_refl, true_and, and_true, Option.getD_none, Option.isNone_none, decide_eq_true_eq, lc_lt0, lc_gt0, lc_le0, lc_ge0, lc_eq0, lc_ne0, ite_true, ite_false, n2B, sh2]
      refine ⟨by omega, fun c2 => stop (Or.inr (by unfold isLt; rw [decide_eq_false_iff_not]; omega)), fun c2 => ⟨by omega, fun c3 => stop (Or.inr (by unfold isLt; rw [decide_eq_false_iff_not]; omega)), fun c3 => ?_⟩⟩
      rw [mAdd_ok (by omega) (by omega)]
      refine ih (i + 1) (by omega) (by omega) ?_
      rw [← runT_step (by omega) (by unfold isLt; rw [decide_eq_true_iff]; omega)]
      exact e
  exact key _ (h 3 4) (Int.le_refl _) (Nat.le_refl _) rfl
theorem pB_sticks (hy : ∀ x, YN x (h 3 4 = h 3 6) → Q x h) : qC tFB (d + 1) k_TownText_sticks [3] h Q :=
  qC_intro (TB_TownText_sticks_0 _ _ _ _ _ ⟨fun c => hy _ (YN.no c), fun c => hy _ (YN.yes (Decidable.of_not_not c))⟩)
theorem pB_here (hS : Sc 5 h) (hy : Q (hrV h) h) : qC tFB (d + 1) k_TownText_here [3] h Q := by
  obtain ⟨s1, s2, s3, -⟩ := id hS
  unfold hrV at hy
  refine qC_intro (TB_TownText_here_0 _ _ _ _ _ ⟨fun c => ?_, fun c => ?_⟩)
  · rw [if_neg (by omega)] at hy; exact hy
  · rw [if_pos (by omega)] at hy
    rw [s1]
    simp only [mmD_iff, mmG_iff, Bool.and_eq_true, Bool.or_eq_true, Nat.beq_refl, true_and, and_true, Option.getD_none, Option.isNone_none, decide_eq_true_eq, lc_lt0, lc_gt0, lc_le0, lc_ge0, lc_eq0, lc_ne0, ite_true, ite_false, n2B, sh2]
    exact ⟨by omega, hy⟩
theorem pB_isDigit {c : Int} (hy : ∀ x, YN x (isDg c = true) → Q x h) : qC tFB (d + 1) k_TownText_isDigit [c] h Q := by
  refine qC_intro (TB_TownText_isDigit_0 _ _ _ _ _ _ ⟨fun q => hy _ (YN.no ?_), fun q => ⟨fun q2 => hy _ (YN.no ?_), fun q2 => hy _ (YN.yes ?_)⟩⟩) <;> unfold isDg <;> rw [decide_eq_true_iff] <;> omega
theorem pB_fail {w p : Int} (hy : Q 0 (flH w p h)) : qC tFB (d + 1) k_TownText_fail [3, w, p] h Q := by
  unfold flH at hy
  refine qC_intro (TB_TownText_fail_0 _ _ _ _ _ _ _ ⟨fun c => ?_, fun c => ?_⟩)
  · rw [if_pos c] at hy; exact hy
  · rw [if_neg c] at hy; exact hy
theorem pB_passWord (hS : Sc 5 h) (hy : Q 0 (psH h)) : qC tFB (d + 2) k_TownText_passWord [3] h Q :=
  qC_intro (TB_TownText_passWord_0 _ _ _ _ _ (pB_lettersEnd hS hy))
theorem pB_packed {e : Int} (hS : Sc 5 h) (e1 : h 3 4 ≤ e) (e2 : e ≤ h 3 3) (e3 : e - h 3 4 ≤ 6) (hl : ∀ j, h 3 4 ≤ j → j < e → isLt (h 2 j) = true) (hy : Q (pk5 (ltrs (h 2) (h 3 4) (e - h 3 4).toNat)) h) : qC tFB (d + 1) k_TownText_packed [3, h 3 4, e] h Q := by
  obtain ⟨s1, s2, s3, -⟩ := id hS
  refine qC_intro (TB_TownText_packed_0 _ _ _ _ _ _ _ ?_)
  have key : ∀ (j k : Nat), (k : Int) + j = e - h 3 4 → qB tFB d k_TownText_packed (h 0 0) (h 0 1) Q 1 [(3, 3), (1, h 3 4), (1, e), (1, pk5 (ltrs (h 2) (h 3 4) k)), (1, h 3 4 + (k : Int))] [] h := by
    intro j
    induction j with
    | zero =>
      intro k hk
      rw [show (e - h 3 4).toNat = k by omega] at hy
      exact TB_TownText_packed_1 _ _ _ _ _ _ _ _ _ ⟨fun _ => hy, fun c => absurd (by omega) c⟩
    | succ j ih =>
      intro k hk
      have hlk := hl (h 3 4 + (k : Int)) (by omega) (by omega)
      unfold isLt at hlk
      rw [decide_eq_true_iff] at hlk
      have hm := ltrs_mem (B := h 2) k (h 3 4) (fun i i1 i2 => hl i i1 (by omega))
      have hp := pk5_nn (ltrs (h 2) (h 3 4) k) (fun x hx => by have := hm x hx; omega)
      rw [ltrs_len] at hp
      refine TB_TownText_packed_1 _ _ _ _ _ _ _ _ _ ⟨fun c => absurd c (by omega), fun _ => ⟨fun c => absurd c (by omega), fun _ => ?_⟩⟩
      rw [s1]
      simp only [mmD_iff, mmG_iff, Bool.and_eq_true, Bool.or_eq_true, Nat.beq_refl, true_and, and_true, Option.getD_none, Option.isNone_none, decide_eq_true_eq, lc_lt0, lc_gt0, lc_le0, lc_ge0, lc_eq0, lc_ne0, ite_true, ite_false, n2B, sh2]
      refine ⟨by omega, ?_⟩
      rw [mSub_ok (b := 97) (by omega) (by omega), mAdd_ok (b := 1) (by omega) (by omega), mSub_ok (b := h 3 4) (by omega) (by omega), show h 3 4 + (k : Int) - h 3 4 = (k : Int) by omega, mMul_ok (by omega) (by omega), mAdd_ok (b := 1) (by omega) (by omega), show h 2 (h 3 4 + (k : Int)) - 97 + 1 = h 2 (h 3 4 + (k : Int)) - 96 by omega, mOr_add (by omega) hp.1 hp.2 (by omega) (by omega), ← pk_snoc, show h 3 4 + (k : Int) + 1 = h 3 4 + ((k + 1 : Nat) : Int) by omega]
      exact ih (k + 1) (by omega)
  have := key (e - h 3 4).toNat 0 (by omega)
  rw [show h 3 4 + ((0 : Nat) : Int) = h 3 4 by omega] at this
  exact this
theorem pB_wordHere (hS : Sc 5 h) (hy : Q (wdV (skH h)) (skH h)) : qC tFB (d + 2) k_TownText_wordHere [3] h Q := by
  have gS := Sc_sk (by decide) hS
  refine qC_intro (TB_TownText_wordHere_0 _ _ _ _ _ (pB_skip hS ?_))
  generalize hg : skH h = g at hy gS ⊢
  have hle := leV_ge gS
  unfold wdV at hy
  refine pB_lettersEnd gS ⟨fun c => ?_, fun c => ?_⟩
  · rw [if_pos (Or.inl c)] at hy; exact hy
  · rw [mSub_ok (by have := gS.2.1; omega) (by have := gS.2.1; omega)]
    refine ⟨fun c2 => ?_, fun c2 => pB_sticks (fun x hx => ⟨fun c3 => pB_packed gS hle.1 hle.2 (by omega) (fun j j1 j2 => runT_all j1 j2) ?_, fun c3 => ?_⟩)⟩
    · rw [if_pos (Or.inr (Or.inl c2))] at hy; exact hy
    · rw [if_neg (fun q => by rcases q with q | q | q; exact c q; exact c2 q; exact hx.neg c3 q)] at hy
      have key : ∀ (j k : Nat), k + j = 29 → plcE (g 45) (pkV g) 29 0 = plcE (g 45) (pkV g) j (k : Int) → qB tFB (d + 1) k_TownText_wordHere (h 0 0) (h 0 1) Q 3 [(3, 3), (1, leV g), (1, pkV g), (1, (k : Int))] [] g := by
        intro j
        induction j with
        | zero =>
          intro k hk e
          refine TB_TownText_wordHere_3 _ _ _ _ _ _ _ _ ⟨fun _ => ?_, fun c => absurd (by omega) c⟩
          rw [e] at hy
          exact hy
        | succ j ih =>
          intro k hk e
          have e : plcE (g 45) (pkV g) 29 0 = (if g 45 (k : Int) = pkV g then (k : Int) else plcE (g 45) (pkV g) j ((k : Int) + 1)) := e
          refine TB_TownText_wordHere_3 _ _ _ _ _ _ _ _ ⟨fun c => absurd c (by omega), fun _ => mmD_of (by omega) ⟨fun c5 => ?_, fun c5 => ?_⟩⟩
          · rw [if_neg c5] at e
            rw [mAdd_ok (by omega) (by omega), show (k : Int) + 1 = ((k + 1 : Nat) : Int) by omega]
            exact ih (k + 1) (by omega) e
          · rw [if_pos (Decidable.of_not_not c5)] at e
            rw [e] at hy
            exact hy
      exact key 29 0 (by omega) rfl
    · rw [if_pos (Or.inr (Or.inr (hx.pos c3)))] at hy; exact hy
theorem pB_takeWord {w : Int} (hS : Sc 5 h) (hy : Q 0 (twH w h)) : qC tFB (d + 3) k_TownText_takeWord [3, w] h Q := by
  unfold twH at hy
  refine qC_intro (TB_TownText_takeWord_0 _ _ _ _ _ _ (pB_wordHere hS ⟨fun c => pB_fail ?_, fun c => pB_passWord (Sc_sk (by decide) hS) ?_⟩))
  · rw [if_neg c] at hy; exact hy
  · rw [if_pos (Decidable.of_not_not c)] at hy; exact hy
theorem pB_takeSign {c : Int} (hS : Sc 5 h) (hc : c ≠ -1) (hy : Q 0 (tsH c h)) : qC tFB (d + 2) k_TownText_takeSign [3, c] h Q := by
  have gS := Sc_sk (by decide) hS
  unfold tsH at hy
  refine qC_intro (TB_TownText_takeSign_0 _ _ _ _ _ _ (pB_skip hS (pB_here gS ⟨fun q => pB_fail ?_, fun q => ?_⟩)))
  · rw [if_neg q] at hy; exact hy
  · have q' := Decidable.of_not_not q
    have hl := hrV_lt q' hc
    have s := gS.2.1
    rw [if_pos q'] at hy
    rw [mAdd_ok (by omega) (by omega)]
    exact hy
theorem pB_isHere {a b : Int} (hS : Sc 5 h) (hy : ∀ x, YN x (hrV (skH h) = a ∨ hrV (skH h) = b) → Q x (skH h)) : qC tFB (d + 2) k_TownText_isHere [3, a, b] h Q := by
  have gS := Sc_sk (by decide) hS
  exact qC_intro (TB_TownText_isHere_0 _ _ _ _ _ _ _ (pB_skip hS (pB_here gS ⟨fun c => hy _ (YN.yes (Or.inl c)), fun c => pB_here gS ⟨fun c2 => hy _ (YN.no (by omega)), fun c2 => hy _ (YN.yes (by omega))⟩⟩)))
theorem pB_refuse {a : Int} {b : Bool} (hb : b = true ↔ a ≠ 0) (hy : Q 0 (rfH b h)) : qC tFB (d + 2) k_TownText_refuseNameIf [3, a] h Q := by
  unfold rfH at hy
  refine qC_intro (TB_TownText_refuseNameIf_0 _ _ _ _ _ _ ⟨fun c => ?_, fun c => pB_fail ?_⟩)
  · rw [if_neg (fun q => hb.mp q c)] at hy; exact hy
  · rw [if_pos (hb.mpr c)] at hy; exact hy
theorem pB_mayOpen {o : Int} (hy : ∀ x, YN x (mayH o h 3 0 = 0) → Q x (mayH o h)) : qC tFB (d + 2) k_TownText_mayOpen [3, o] h Q := by
  refine qC_intro (TB_TownText_mayOpen_0 _ _ _ _ _ _ ⟨fun c => ?_, fun c => pB_fail ?_⟩)
  · unfold mayH at hy
    rw [if_pos c] at hy
    exact ⟨fun c2 => hy _ (YN.no c2), fun c2 => hy _ (YN.yes (Decidable.of_not_not c2))⟩
  · unfold mayH at hy
    rw [if_neg c] at hy
    exact ⟨fun c2 => hy _ (YN.no c2), fun c2 => hy _ (YN.yes (Decidable.of_not_not c2))⟩
theorem pB_isFact {w : Int} (hy : ∀ x, YN x (isFc w = true) → Q x h) : qC tFB (d + 1) k_TownText_isFactWord [w] h Q := by
  refine qC_intro (TB_TownText_isFactWord_0 _ _ _ _ _ _ ⟨fun c => hy _ (YN.yes ?_), fun c => ⟨fun c2 => hy _ (YN.yes ?_), fun c2 => ⟨fun c3 => hy _ (YN.yes ?_), fun c3 => ⟨fun c4 => hy _ (YN.yes ?_), fun c4 => ⟨fun c5 => hy _ (YN.no ?_), fun c5 => hy _ (YN.yes ?_)⟩⟩⟩⟩⟩) <;> unfold isFc <;> rw [decide_eq_true_iff] <;> omega
theorem pB_put {t : Int} (h1 : 0 ≤ h 38 1) (hy : Q 0 (putT 5 t h)) : qC tFB (d + 1) k_Laws_put [38, t] h Q := by
  unfold putT at hy
  simp only [Int.reduceAdd] at hy
  refine qC_intro (TB38_Laws_put_0 _ _ _ _ _ _ ⟨fun c => ?_, fun c => ?_⟩)
  · rw [if_neg (by omega)] at hy; exact hy
  · rw [if_pos (by omega)] at hy
    rw [mmD_iff, mAdd_ok (by omega) (by omega)]
    exact ⟨by omega, hy⟩
theorem pB_number {lo hi : Int} (hS : Sc 5 h) (hy : Q (nuV (skH h)) (nuH lo hi h)) : qC tFB (d + 2) k_TownText_number [3, lo, hi] h Q := by
  have gS := Sc_sk (by decide) hS
  unfold nuH at hy
  refine qC_intro (TB_TownText_number_0 _ _ _ _ _ _ _ (pB_skip hS ?_))
  generalize hg : skH h = g at hy gS ⊢
  have s := gS.2.1
  have ge := nuE_ge gS
  refine pB_sticks (fun st hst => ?_)
  -- the digits
  have M : ∃ m : Nat, nuE g = runE isDg (g 2) m (g 3 4) ∧ (m : Int) ≤ g 3 3 - g 3 4 ∧ m ≤ 4 ∧ (m = 4 ∨ (m : Int) = g 3 3 - g 3 4) := by
    refine ⟨if g 3 3 - g 3 4 < 4 then (g 3 3 - g 3 4).toNat else 4, rfl, ?_, ?_, ?_⟩ <;> split <;> omega
  obtain ⟨m, hm, m1, m2, m3⟩ := M
  have fin : ∀ k : Nat, g 3 4 + (k : Int) = nuE g → qB tFB (d + 1) k_TownText_number (h 0 0) (h 0 1) Q 2 [(3, 3), (1, lo), (1, hi), (1, g 3 4), (1, st), (1, dgV (g 2) k (g 3 4) 0), (1, (k : Int))] [] (mmS g 3 4 (g 3 4 + k)) := by
    intro k hk
    have ev : nuV g = dgV (g 2) k (g 3 4) 0 := by unfold nuV; rw [← hk, show (g 3 4 + (k : Int) - g 3 4).toNat = k by omega]
    have eT : mmS (mmS g 3 4 (g 3 4 + k)) 3 6 (mmS g 3 4 (g 3 4 + k) 3 4) = nuT g := by unfold nuT; rw [mmS_slot, if_pos rfl, hk]
    have TS := Sc_nuT (by decide : (5 : Int) = 5 ∨ (5 : Int) = 46) gS
    have T4 : nuT g 3 4 = nuE g := by unfold nuT; rw [mmS_slot, if_neg (by omega), mmS_slot, if_pos rfl]
    unfold nuF at hy
    refine TB_TownText_number_2 _ _ _ _ _ _ _ _ _ _ _ ?_
    rw [eT, ← ev]
    rw [mmS_slot, if_pos rfl]
    refine ⟨fun c => pB_fail ?_, fun c => ⟨fun c2 => pB_here TS (pB_isDigit (fun z hz => ⟨fun c3 => ⟨fun c4 => pB_fail ?_, fun c4 => ⟨fun c5 => ?_, fun c5 => pB_fail ?_⟩⟩, fun c3 => ?_⟩)), fun c2 => pB_fail ?_⟩⟩
    · rw [if_pos (Or.inl (by omega))] at hy; exact hy
    · rw [if_neg (fun q => by rcases q with q | q; omega; exact hst.neg c2 q), if_neg (hz.neg c3), if_pos (Or.inl c4)] at hy; exact hy
    · rw [if_neg (fun q => by rcases q with q | q; omega; exact hst.neg c2 q), if_neg (hz.neg c3), if_neg (by omega)] at hy; exact hy
    · rw [if_neg (fun q => by rcases q with q | q; omega; exact hst.neg c2 q), if_neg (hz.neg c3), if_pos (Or.inr (by omega))] at hy; exact hy
    · rw [if_neg (fun q => by rcases q with q | q; omega; exact hst.neg c2 q), if_pos (hz.pos c3)] at hy
      rw [T4]
      exact pB_fail hy
    · rw [if_pos (Or.inr (hst.pos c2))] at hy; exact hy
  have key : ∀ (j k : Nat), k + j = m → (∀ i, g 3 4 ≤ i → i < g 3 4 + (k : Int) → isDg (g 2 i) = true) → nuE g = runE isDg (g 2) j (g 3 4 + (k : Int)) → qB tFB (d + 1) k_TownText_number (h 0 0) (h 0 1) Q 1 [(3, 3), (1, lo), (1, hi), (1, g 3 4), (1, st), (1, dgV (g 2) k (g 3 4) 0), (1, (k : Int))] [] (mmS g 3 4 (g 3 4 + k)) := by
    intro j
    induction j with
    | zero =>
      intro k hk hd e
      unfold runE at e
      have fk := fin k e.symm
      refine TB_TownText_number_1 _ _ _ _ _ _ _ _ _ _ _ ⟨fun _ => fk, fun c => pB_here (Sc_at (by decide) gS (by omega) (by omega)) (pB_isDigit (fun x hx => ⟨fun _ => fk, fun c2 => ?_⟩))⟩
      have := hx.pos c2
      rw [hrV_at, if_neg (by omega)] at this
      exact absurd this (by decide)
    | succ j ih =>
      intro k hk hd e
      have hS2 := Sc_at (a := g 3 4 + (k : Int)) (by decide : (5 : Int) = 5 ∨ (5 : Int) = 46) gS (by omega) (by omega)
      have hr : hrV (mmS g 3 4 (g 3 4 + (k : Int))) = g 2 (g 3 4 + (k : Int)) := by
        rw [hrV_at, if_pos (by omega)]
      refine TB_TownText_number_1 _ _ _ _ _ _ _ _ _ _ _ ⟨fun c => absurd c (by omega), fun c => pB_here hS2 (pB_isDigit (fun x hx => ⟨fun c2 => ?_, fun c2 => pB_here hS2 ?_⟩))⟩
      · rw [hr] at hx
        unfold runE at e
        rw [if_neg (hx.neg c2)] at e
        exact fin k e.symm
      · rw [hr] at hx ⊢
        have hdk := hx.pos c2
        have hd2 := hdk
        unfold isDg at hd2
        rw [decide_eq_true_iff] at hd2
        have vb := dgV_ok (B := g 2) (i := g 3 4) k hd
        have p10k := p10 ⟨k, by omega⟩
        simp only [] at p10k
        unfold runE at e
        rw [if_pos hdk, show g 3 4 + (k : Int) + 1 = g 3 4 + ((k + 1 : Nat) : Int) by omega] at e
        rw [mMul_ok (by omega) (by omega), mAdd_ok (b := g 2 (g 3 4 + (k : Int))) (by omega) (by omega), mSub_ok (by omega) (by omega), ← dgV_snoc, mAdd_ok (a := (k : Int)) (by omega) (by omega), mmS_slot, if_pos rfl, mAdd_ok (by omega) (by omega), show (k : Int) + 1 = ((k + 1 : Nat) : Int) by omega, show g 3 4 + (k : Int) + 1 = g 3 4 + ((k + 1 : Nat) : Int) by omega]
        have e2 : mmS (mmS g 3 4 (g 3 4 + (k : Int))) 3 4 (g 3 4 + ((k + 1 : Nat) : Int)) = mmS g 3 4 (g 3 4 + ((k + 1 : Nat) : Int)) := mmS_mmS _ _ _ _ _
        rw [e2]
        refine ih (k + 1) (by omega) (fun i i1 i2 => ?_) e
        by_cases q : i = g 3 4 + (k : Int)
        · rw [q]; exact hdk
        · exact hd i i1 (by omega)
  have := key m 0 (by omega) (fun i i1 i2 => absurd i2 (by omega)) (by rw [hm, show g 3 4 + ((0 : Nat) : Int) = g 3 4 by omega])
  rw [show g 3 4 + ((0 : Nat) : Int) = g 3 4 by omega, mmS_id] at this
  exact this
theorem pB_name (hS : Sc 5 h) (hy : Q (nmX h) (nmH h)) : qC tFB (d + 3) k_TownText_name [3] h Q := by
  have gS := Sc_sk (by decide) hS
  have nS := Sc_nmS (by decide) hS
  have hd : skd (nmS h) := skd_el (by omega) (skd_sk hS.2.1.2.1)
  have e4 : nmS h 3 4 = skH h 3 4 := by unfold nmS; rw [mmS_slot, if_neg (by omega)]
  have eL : leV (nmS h) = leV (skH h) := leV_el (by omega)
  refine qC_intro (TB_TownText_name_0 _ _ _ _ _ (pB_skip hS (pB_lettersEnd gS ?_)))
  rw [show mmS (skH h) 3 5 (skH h 3 4) = nmS h from rfl, ← eL, ← e4]
  unfold nmH nmX at hy
  generalize hg : nmS h = g at hy nS hd ⊢
  have s := nS.2.1
  have hle := leV_ge nS
  have no : ¬ nmB g = true → Q 0 (if leV g = g 3 4 ∨ g 3 4 = g 3 6 then flH 1 (g 3 4) g else if 6 < leV g - g 3 4 then flH 1 (g 3 4 + 6) g else flH 1 (g 3 4) g) := fun q => by
    unfold nmF at hy
    rw [if_neg q, if_neg q] at hy
    exact hy
  refine ⟨fun c => pB_fail ?_, fun c => pB_sticks (fun x hx => ⟨fun c2 => ?_, fun c2 => pB_fail ?_⟩)⟩
  · have := no (fun q => by unfold nmB at q; rw [decide_eq_true_iff] at q; exact q.1 (Or.inl c))
    rw [if_pos (Or.inl c)] at this; exact this
  · have n1 : ¬ (leV g = g 3 4 ∨ g 3 4 = g 3 6) := fun q => by rcases q with q | q; exact c q; exact hx.neg c2 q
    rw [mSub_ok (by omega) (by omega)]
    refine ⟨fun c3 => pB_wordHere nS ?_, fun c3 => ?_⟩
    · rw [skd_id hd]
      refine ⟨fun c4 => pB_packed nS hle.1 hle.2 c3 (fun j j1 j2 => runT_all j1 j2) (pB_passWord nS ?_), fun c4 => pB_fail ?_⟩
      · have hb : nmB g = true := by unfold nmB; rw [decide_eq_true_iff]; exact ⟨n1, by omega, c4⟩
        unfold nmF at hy
        rw [if_pos hb, if_pos hb] at hy
        exact hy
      · have := no (fun q => by unfold nmB at q; rw [decide_eq_true_iff] at q; exact c4 q.2.2)
        rw [if_neg n1, if_neg (by omega)] at this; exact this
    · have := no (fun q => by unfold nmB at q; rw [decide_eq_true_iff] at q; exact q.2.1 (by omega))
      rw [if_neg n1, if_pos (by omega)] at this
      rw [mAdd_ok (by omega) (by omega)]
      exact pB_fail this
  · have := no (fun q => by unfold nmB at q; rw [decide_eq_true_iff] at q; exact q.1 (Or.inr (hx.pos c2)))
    rw [if_pos (Or.inr (hx.pos c2))] at this; exact this
end SNB
