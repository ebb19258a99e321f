/-! ===== mm: letters of names ===== -/
noncomputable def ltr (n k : Int) : Int := mAnd (mShr n (5 * k)) 31
theorem tb_31 {l : Int} (h1 : 0 ≤ l) (h2 : l < 32) : tb 31 l = decide (l < 5) := by
  rw [tb_nat (by decide) (by decide) h1 h2]
  have : ∀ i : Fin 32, Nat.testBit (31 : Int).toNat i.val = decide (i.val < 5) := by decide +kernel
  have := this ⟨l.toNat, by omega⟩
  rw [this]
  apply decide_eq_decide.mpr
  show l.toNat < 5 ↔ l < 5
  omega
theorem ltr_nat {n k : Int} (n1 : 0 ≤ n) (n2 : n < 1073741824) (k1 : 0 ≤ k) (k2 : k < 6) : ltr n k = ((n.toNat / 32 ^ k.toNat % 32 : Nat) : Int) := by
  have hle : n.toNat / 32 ^ k.toNat % 32 < 32 := Nat.mod_lt _ (by decide)
  have e32 : (32 : Nat) ^ k.toNat = 2 ^ (5 * k.toNat) := by rw [Nat.pow_mul]
  unfold ltr
  refine tb_ext (InI_and _ _) ⟨by omega, by omega⟩ (fun l l1 l2 => ?_)
  rw [tb_and, tb_31 l1 l2, tb_nat (x := ((n.toNat / 32 ^ k.toNat % 32 : Nat) : Int)) (by omega) (by omega) l1 l2]
  rw [show (((n.toNat / 32 ^ k.toNat % 32 : Nat) : Int)).toNat = n.toNat / 32 ^ k.toNat % 2 ^ 5 from rfl, e32, Nat.testBit_mod_two_pow, Nat.testBit_div_two_pow]
  by_cases q : l < 5
  · rw [tb_shr (by omega) (by omega) l1 (by omega), tb_nat n1 (by omega) (by omega) (by omega), decide_eq_true q, Bool.and_true, decide_eq_true (by omega : l.toNat < 5), Bool.true_and, show (5 * k + l).toNat = l.toNat + 5 * k.toNat by omega]
  · rw [decide_eq_false q, Bool.and_false, decide_eq_false (by omega : ¬ l.toNat < 5), Bool.false_and]
theorem pk5_nn : ∀ ls : List Int, (∀ x ∈ ls, 0 ≤ x ∧ x ≤ 31) → 0 ≤ pk5 ls ∧ pk5 ls < ((32 ^ ls.length : Nat) : Int)
  | [], _ => by decide
  | c :: r, h => by
    have ih := pk5_nn r (fun x hx => h x (List.mem_cons_of_mem _ hx))
    have hc := h c (List.mem_cons_self ..)
    unfold pk5
    rw [List.length_cons, Nat.pow_succ]
    omega
theorem pk5_at : ∀ (ls : List Int) (k : Nat), (∀ x ∈ ls, 0 ≤ x ∧ x ≤ 31) → (pk5 ls).toNat / 32 ^ k % 32 = (ls.getD k 0).toNat
  | [], k, _ => by simp [pk5]
  | c :: r, 0, h => by
    have ih := pk5_nn r (fun x hx => h x (List.mem_cons_of_mem _ hx))
    have hc := h c (List.mem_cons_self ..)
    have e : (c :: r).getD 0 0 = c := rfl
    rw [e]
    unfold pk5
    omega
  | c :: r, k + 1, h => by
    have ih := pk5_nn r (fun x hx => h x (List.mem_cons_of_mem _ hx))
    have hc := h c (List.mem_cons_self ..)
    have e : (c :: r).getD (k + 1) 0 = r.getD k 0 := rfl
    rw [e, ← pk5_at r k (fun x hx => h x (List.mem_cons_of_mem _ hx)), Nat.pow_succ, Nat.mul_comm, ← Nat.div_div_eq_div_mul]
    have : (pk5 (c :: r)).toNat / 32 = (pk5 r).toNat := by
      have e2 : pk5 (c :: r) = c + 32 * pk5 r := rfl
      rw [e2]
      omega
    rw [this]
theorem isNm_31 {ls : List Int} (h : isNm ls) : ∀ x ∈ ls, 0 ≤ x ∧ x ≤ 31 := fun x hx => by have := h.2.2 x hx; omega
theorem isNm_pk {ls : List Int} (h : isNm ls) : 1 ≤ pk5 ls ∧ pk5 ls < 1073741824 := by
  have h2 := pk5_nn ls (isNm_31 h)
  have h3 : (32 : Nat) ^ ls.length ≤ 32 ^ 6 := Nat.pow_le_pow_right (by decide) h.2.1
  refine ⟨?_, by omega⟩
  obtain ⟨a, b, c⟩ := h
  cases ls with
  | nil => exact absurd a (by decide)
  | cons x r =>
    have hx := c x (List.mem_cons_self ..)
    have hr := pk5_nn r (fun y hy => by have := c y (List.mem_cons_of_mem _ hy); omega)
    unfold pk5
    omega
theorem getD_nn {ls : List Int} (h : isNm ls) (k : Nat) : 0 ≤ ls.getD k 0 := by
  rw [List.getD_eq_getElem?_getD]
  cases e : ls[k]? with
  | none => exact Int.le_refl _
  | some x =>
    have := h.2.2 x (List.mem_of_getElem? e)
    show 0 ≤ x
    omega
theorem ltr_at {ls : List Int} {k : Int} (h : isNm ls) (k1 : 0 ≤ k) (k2 : k < 6) : ltr (pk5 ls) k = ls.getD k.toNat 0 := by
  have hp := isNm_pk h
  have := getD_nn h k.toNat
  rw [ltr_nat (by omega) hp.2 k1 k2, pk5_at ls _ (isNm_31 h)]
  omega
theorem b27_snoc (ls : List Int) (c : Int) : b27 (ls ++ [c]) = 27 * b27 ls + c := by
  unfold b27
  rw [List.foldl_append]
  rfl
theorem b27_take {ls : List Int} {j : Nat} (h : j < ls.length) : b27 (ls.take (j + 1)) = 27 * b27 (ls.take j) + ls.getD j 0 := by
  have e : ls.take (j + 1) = ls.take j ++ [ls.getD j 0] := by
    rw [List.getD_eq_getElem?_getD, List.getElem?_eq_getElem h]
    exact (List.take_append_getElem h).symm
  rw [e, b27_snoc]
theorem b27_nn {ls : List Int} (hn : isNm ls) : ∀ j : Nat, j ≤ ls.length → 0 ≤ b27 (ls.take j) ∧ b27 (ls.take j) < ((27 ^ j : Nat) : Int) ∧ (0 < j → 0 < b27 (ls.take j))
  | 0, _ => ⟨by simp [b27], by simp [b27], fun q => absurd q (by decide)⟩
  | j + 1, hj => by
    have ih := b27_nn hn j (by omega)
    have hm : 1 ≤ ls.getD j 0 ∧ ls.getD j 0 ≤ 26 := by
      rw [List.getD_eq_getElem?_getD, List.getElem?_eq_getElem (by omega)]
      exact hn.2.2 _ (List.getElem_mem _)
    rw [b27_take (by omega), Nat.pow_succ]
    omega
theorem b27_small {ls : List Int} (hn : isNm ls) {j : Nat} (hj : j ≤ ls.length) : 0 ≤ b27 (ls.take j) ∧ b27 (ls.take j) < 387420489 ∧ (0 < j → 0 < b27 (ls.take j)) := by
  have h1 := b27_nn hn j hj
  have h3 : (27 : Nat) ^ j ≤ 27 ^ 6 := Nat.pow_le_pow_right (by decide) (Nat.le_trans hj hn.2.1)
  exact ⟨h1.1, by omega, h1.2.2⟩
theorem nDiv_27 {a : Int} (h1 : 0 ≤ a) (h2 : a < 387420489) : nDiv a 27 = a / 27 := by
  rw [nDiv_def, Int64.toInt_div_of_ne_left _ _ (fun q => by
    have := congrArg Int64.toInt q
    rw [Int64.toInt_ofInt_of_le (by omega) (by omega)] at this
    rw [this] at h1
    exact absurd h1 (by decide)), Int64.toInt_ofInt_of_le (by omega) (by omega), Int64.toInt_ofInt_of_le (by omega) (by omega), Int.tdiv_eq_ediv_of_nonneg h1]
theorem nRem_27 {a : Int} (h1 : 0 ≤ a) (h2 : a < 387420489) : nRem a 27 = a % 27 := by
  have e := nDiv_27 h1 h2
  rw [nDiv_def] at e
  rw [nRem_def]
  have e1 : Int64.ofInt a / Int64.ofInt 27 = Int64.ofInt (a / 27) := by
    apply Int64.toInt.inj
    rw [e, Int64.toInt_ofInt_of_le (by omega) (by omega)]
  rw [e1, ← Int64.ofInt_mul, ← Int64.ofInt_sub, Int64.toInt_ofInt_of_le (by omega) (by omega)]
  omega
noncomputable def letV (u : Int) (g : mmH) (a b k : Int) : Int := if ¬ (0 ≤ k ∧ k < 6) then -1 else if a = 0 ∧ 0 ≤ b ∧ b < g u 0 then ltr (g (u + 1) b) k else if a = 1 ∧ 0 ≤ b ∧ b < g u 1 then ltr (g (u + 2) b) k else if a = 2 ∧ 0 ≤ b ∧ b < g u 3 then ltr (g (u + 3) b) k else -1
theorem letV_out {u a b k : Int} {g : mmH} (h0 : ¬ (a = 0 ∧ 0 ≤ b ∧ b < g u 0)) (h1 : ¬ (a = 1 ∧ 0 ≤ b ∧ b < g u 1)) (h2 : ¬ (a = 2 ∧ 0 ≤ b ∧ b < g u 3)) : letV u g a b k = -1 := by
  unfold letV
  rw [if_neg h0, if_neg h1, if_neg h2]
  split <;> rfl
theorem nmR_ne {a b : Int} (h : nmR a b) : a ≠ 0 := by
  obtain ⟨ls, h1, rfl, -⟩ := h
  have := isNm_pk h1
  omega
section LTA
variable {d : Nat} {h m0 : mmH} {Q : Int → mmH → Prop}
theorem aA_letter {a b k : Int} (hC : Cp 5 h m0) (hy : ∀ x, x = letV 5 h a b k → Q x h) : qC tFA (d + 3) k_c_letter [1, a, b, k] h Q := by
  have n0 := hC.T.1.2.1.1
  have n1 := hC.T.1.2.1.2.1
  have n3 := hC.T.1.2.1.2.2.1
  obtain ⟨c0, c1, c2⟩ := hC.T.2.2.2.2.1
  simp only [Int.reduceAdd] at c0 c1 c2
  have b4 : ∀ (hk : 0 ≤ k ∧ k < 6) (hn : ¬ (a = 0 ∧ 0 ≤ b ∧ b < h 5 0) ∧ ¬ (a = 1 ∧ 0 ≤ b ∧ b < h 5 1)), qB tFA (d + 2) k_c_letter (h 0 0) (h 0 1) Q 4 [(3, 1), (1, a), (1, b), (1, k), (1, 0)] [] h := by
    intro hk hn
    refine TA_c_letter_4 _ _ _ _ _ _ _ _ _ ⟨fun c => ⟨fun q => absurd rfl q, fun _ => hy _ ?_⟩, fun c => pA_isPerson (fun x hx => ⟨fun q => ⟨fun q2 => absurd rfl q2, fun _ => hy _ ?_⟩, fun q => ?_⟩)⟩
    · unfold letV; rw [if_neg (fun q => q hk), if_neg hn.1, if_neg hn.2, if_neg (fun q => c q.1)]
    · unfold letV; rw [if_neg (fun q => q hk), if_neg hn.1, if_neg hn.2, if_neg (fun q2 => hx.neg q q2.2)]
    · have hb := hx.pos q
      rw [mMul_ok (by omega) (by omega)]
      refine mmD_of (by omega) ⟨fun _ => hy _ ?_, fun q2 => absurd (nmR_ne (c2 b hb.1 hb.2)) q2⟩
      unfold letV; rw [if_neg (fun q => q hk), if_neg hn.1, if_neg hn.2, if_pos ⟨Decidable.of_not_not c, hb⟩]; rfl
  have b3 : ∀ (hk : 0 ≤ k ∧ k < 6) (hn : ¬ (a = 0 ∧ 0 ≤ b ∧ b < h 5 0)), qB tFA (d + 2) k_c_letter (h 0 0) (h 0 1) Q 3 [(3, 1), (1, a), (1, b), (1, k), (1, 0)] [] h := by
    intro hk hn
    refine TA_c_letter_3 _ _ _ _ _ _ _ _ _ ⟨fun c => b4 hk ⟨hn, fun q => c q.1⟩, fun c => pA5_isLot (fun x hx => ⟨fun q => b4 hk ⟨hn, fun q2 => hx.neg q q2.2⟩, fun q => ?_⟩)⟩
    have hb := hx.pos q
    rw [mMul_ok (by omega) (by omega)]
    refine mmD_of (by omega) ⟨fun _ => hy _ ?_, fun q2 => absurd (nmR_ne (c1 b hb.1 hb.2)) q2⟩
    unfold letV; rw [if_neg (fun q => q hk), if_neg hn, if_pos ⟨Decidable.of_not_not c, hb⟩]; rfl
  refine qC_intro (TA_c_letter_0 _ _ _ _ _ _ _ _ ⟨fun c => hy _ ?_, fun c => ⟨fun c2 => ⟨fun c3 => b3 (by omega) (fun q => c3 q.1), fun c3 => pA_isOwner (fun x hx => ⟨fun q => b3 (by omega) (fun q2 => hx.neg q q2.2), fun q => ?_⟩)⟩, fun c2 => hy _ ?_⟩⟩)
  · unfold letV; rw [if_pos (by omega)]
  · have hb := hx.pos q
    rw [mMul_ok (by omega) (by omega)]
    refine mmD_of (by omega) ⟨fun _ => hy _ ?_, fun q2 => absurd (nmR_ne (c0 b hb.1 hb.2)) q2⟩
    unfold letV; rw [if_neg (by omega), if_pos ⟨Decidable.of_not_not c3, hb⟩]; rfl
  · unfold letV; rw [if_pos (by omega)]
end LTA
section LTB
variable {d : Nat} {h m0 : mmH} {Q : Int → mmH → Prop}
theorem aB_letter {a b k : Int} (hC : Cp 46 h m0) (hy : ∀ x, x = letV 46 h a b k → Q x h) : qC tFB (d + 3) k_c_letter [1, a, b, k] h Q := by
  have n0 := hC.T.1.2.1.1
  have n1 := hC.T.1.2.1.2.1
  have n3 := hC.T.1.2.1.2.2.1
  obtain ⟨c0, c1, c2⟩ := hC.T.2.2.2.2.1
  simp only [Int.reduceAdd] at c0 c1 c2
  have b4 : ∀ (hk : 0 ≤ k ∧ k < 6) (hn : ¬ (a = 0 ∧ 0 ≤ b ∧ b < h 46 0) ∧ ¬ (a = 1 ∧ 0 ≤ b ∧ b < h 46 1)), qB tFB (d + 2) k_c_letter (h 0 0) (h 0 1) Q 4 [(3, 1), (1, a), (1, b), (1, k), (1, 0)] [] h := by
    intro hk hn
    refine TB_c_letter_4 _ _ _ _ _ _ _ _ _ ⟨fun c => ⟨fun q => absurd rfl q, fun _ => hy _ ?_⟩, fun c => pB_isPerson (fun x hx => ⟨fun q => ⟨fun q2 => absurd rfl q2, fun _ => hy _ ?_⟩, fun q => ?_⟩)⟩
    · unfold letV; rw [if_neg (fun q => q hk), if_neg hn.1, if_neg hn.2, if_neg (fun q => c q.1)]
    · unfold letV; rw [if_neg (fun q => q hk), if_neg hn.1, if_neg hn.2, if_neg (fun q2 => hx.neg q q2.2)]
    · have hb := hx.pos q
      rw [mMul_ok (by omega) (by omega)]
      refine mmD_of (by omega) ⟨fun _ => hy _ ?_, fun q2 => absurd (nmR_ne (c2 b hb.1 hb.2)) q2⟩
      unfold letV; rw [if_neg (fun q => q hk), if_neg hn.1, if_neg hn.2, if_pos ⟨Decidable.of_not_not c, hb⟩]; rfl
  have b3 : ∀ (hk : 0 ≤ k ∧ k < 6) (hn : ¬ (a = 0 ∧ 0 ≤ b ∧ b < h 46 0)), qB tFB (d + 2) k_c_letter (h 0 0) (h 0 1) Q 3 [(3, 1), (1, a), (1, b), (1, k), (1, 0)] [] h := by
    intro hk hn
    refine TB_c_letter_3 _ _ _ _ _ _ _ _ _ ⟨fun c => b4 hk ⟨hn, fun q => c q.1⟩, fun c => pB46_isLot (fun x hx => ⟨fun q => b4 hk ⟨hn, fun q2 => hx.neg q q2.2⟩, fun q => ?_⟩)⟩
    have hb := hx.pos q
    rw [mMul_ok (by omega) (by omega)]
    refine mmD_of (by omega) ⟨fun _ => hy _ ?_, fun q2 => absurd (nmR_ne (c1 b hb.1 hb.2)) q2⟩
    unfold letV; rw [if_neg (fun q => q hk), if_neg hn, if_pos ⟨Decidable.of_not_not c, hb⟩]; rfl
  refine qC_intro (TB_c_letter_0 _ _ _ _ _ _ _ _ ⟨fun c => hy _ ?_, fun c => ⟨fun c2 => ⟨fun c3 => b3 (by omega) (fun q => c3 q.1), fun c3 => pB_isOwner (fun x hx => ⟨fun q => b3 (by omega) (fun q2 => hx.neg q q2.2), fun q => ?_⟩)⟩, fun c2 => hy _ ?_⟩⟩)
  · unfold letV; rw [if_pos (by omega)]
  · have hb := hx.pos q
    rw [mMul_ok (by omega) (by omega)]
    refine mmD_of (by omega) ⟨fun _ => hy _ ?_, fun q2 => absurd (nmR_ne (c0 b hb.1 hb.2)) q2⟩
    unfold letV; rw [if_neg (by omega), if_pos ⟨Decidable.of_not_not c3, hb⟩]; rfl
  · unfold letV; rw [if_pos (by omega)]
end LTB
section LM
variable {d : Nat} {u : Int} {g h : mmH} {Q : Int → mmH → Prop}
theorem q_m_letter3 {a b k n m : Int} (hn : nmR n m) (k1 : 0 ≤ k) (k2 : k < 6) {n0 z0 : Int} (hy : Q (ltr n k) h) : qB tFM d k_m_letter n0 z0 Q 3 [(3, 282), (1, a), (1, b), (1, k), (2, m), (0, 0), (1, 0), (2, m), (0, 0)] [] h := by
  obtain ⟨ls, hl, rfl, rfl⟩ := hn
  rw [ltr_at hl k1 k2] at hy
  have htk : b27 ls = b27 (ls.take ls.length) := by rw [List.take_length]
  have hlen := hl.2.1
  have key6 : ∀ (j i : Nat) (v6 : Int), i = k.toNat + j → i < ls.length → qB tFM d k_m_letter n0 z0 Q 6 [(3, 282), (1, a), (1, b), (1, k), (2, b27 (ls.take (i + 1))), (0, 0), (1, v6), (1, (i : Int)), (0, 0)] [] h := by
    intro j
    induction j with
    | zero =>
      intro i v6 hi hlt
      have hb := b27_small hl (j := i + 1) (by omega)
      have hc := b27_small hl (j := i) (by omega)
      have hm : 1 ≤ ls.getD i 0 ∧ ls.getD i 0 ≤ 26 := by
        rw [List.getD_eq_getElem?_getD, List.getElem?_eq_getElem hlt]
        exact hl.2.2 _ (List.getElem_mem _)
      refine T_m_letter_6 _ _ _ _ _ _ _ _ _ _ _ ⟨fun _ => ?_, fun c => absurd (by omega) c⟩
      rw [nRem_27 hb.1 hb.2.1, mL2i_ok (by omega) (by omega), b27_take hlt, show (27 * b27 (ls.take i) + ls.getD i 0) % 27 = ls.getD i 0 by omega, show i = k.toNat by omega]
      exact hy
    | succ j ih =>
      intro i v6 hi hlt
      have hb := b27_small hl (j := i + 1) (by omega)
      have hc := b27_small hl (j := i) (by omega)
      have hm : 1 ≤ ls.getD i 0 ∧ ls.getD i 0 ≤ 26 := by
        rw [List.getD_eq_getElem?_getD, List.getElem?_eq_getElem hlt]
        exact hl.2.2 _ (List.getElem_mem _)
      refine T_m_letter_6 _ _ _ _ _ _ _ _ _ _ _ ⟨fun c => absurd c (by omega), fun _ => ?_⟩
      rw [nDiv_27 hb.1 hb.2.1, mAdd_ok (by omega) (by omega), b27_take hlt, show (27 * b27 (ls.take i) + ls.getD i 0) / 27 = b27 (ls.take i) by omega]
      obtain ⟨i', rfl⟩ : ∃ i', i = i' + 1 := ⟨i - 1, by omega⟩
      have := ih i' v6 (by omega) (by omega)
      rw [show (((i' + 1 : Nat)) : Int) + -1 = (i' : Int) by omega]
      exact this
  have key : ∀ (j : Nat) (v6 : Int), v6 = ls.length - j → j ≤ ls.length → qB tFM d k_m_letter n0 z0 Q 3 [(3, 282), (1, a), (1, b), (1, k), (2, b27 ls), (0, 0), (1, v6), (2, b27 (ls.take j)), (0, 0)] [] h := by
    have hlen := hl.2.1
    intro j
    induction j with
    | zero =>
      intro v6 h6 hj
      have e0 : b27 (ls.take 0) = 0 := by simp [b27]
      refine T_m_letter_3 _ _ _ _ _ _ _ _ _ _ _ ⟨fun _ => ⟨fun c => ?_, fun c => ?_⟩, fun c => absurd (lc_le0.mpr (by omega)) c⟩
      · have hp := hl.1
        rw [mSub_ok (by omega) (by omega)]
        have := key6 (ls.length - 1 - k.toNat) (ls.length - 1) v6 (by omega) (by omega)
        rw [show ls.length - 1 + 1 = ls.length by omega, ← htk, show (((ls.length - 1 : Nat)) : Int) = v6 - 1 by omega] at this
        exact this
      · rw [List.getD_eq_getElem?_getD, List.getElem?_eq_none (by omega)] at hy
        exact hy
    | succ j ih =>
      intro v6 h6 hj
      have hb := b27_small hl (j := j + 1) (by omega)
      have hc := b27_small hl (j := j) (by omega)
      have hm : 1 ≤ ls.getD j 0 ∧ ls.getD j 0 ≤ 26 := by
        rw [List.getD_eq_getElem?_getD, List.getElem?_eq_getElem (by omega)]
        exact hl.2.2 _ (List.getElem_mem _)
      refine T_m_letter_3 _ _ _ _ _ _ _ _ _ _ _ ⟨fun c => absurd (lc_le0.mp c) (by have := hb.2.2 (by omega); omega), fun _ => ?_⟩
      rw [nDiv_27 hb.1 hb.2.1, mAdd_ok (by omega) (by omega), b27_take (by omega), show (27 * b27 (ls.take j) + ls.getD j 0) / 27 = b27 (ls.take j) by omega]
      exact ih (v6 + 1) (by omega) (by omega)
  have := key ls.length 0 (by omega) (Nat.le_refl _)
  rw [← htk] at this
  exact this
theorem b_letter {a b k : Int} (hC : Cp u g h) (hy : ∀ x, x = letV u g a b k → Q x h) : qC tFM (d + 3) k_m_letter [282, a, b, k] h Q := by
  obtain ⟨m0, m1, m2, m3, m4⟩ := hC.many
  have n0 := hC.T.1.2.1.1
  have n1 := hC.T.1.2.1.2.1
  have n3 := hC.T.1.2.1.2.2.1
  obtain ⟨r0, r1, r2⟩ := hC.T.2.2.2.2.1
  simp only [Int.mul_one, Int.reduceAdd] at r0 r1 r2
  refine qC_intro (T_m_letter_0 _ _ _ _ _ _ _ _ (q_m_isIn (fun x hx => ⟨fun c => hy _ ?_, fun c => ?_⟩)))
  · have := hx.neg c
    exact (letV_out (fun q => this (by omega)) (fun q => this (by omega)) (fun q => this (by omega))).symm
  have ha := hx.pos c
  rw [mAdd_ok (by omega) (by omega)]
  have hm : h 313 (5 + a) = if a = 0 then g u 0 else if a = 1 then g u 1 else g u 3 := by
    rcases (by omega : a = 0 ∨ a = 1 ∨ a = 2) with q | q | q <;> subst q <;> simp [m0, m1, m2]
  have hmb : 0 ≤ h 313 (5 + a) ∧ h 313 (5 + a) ≤ 10 := by rw [hm]; (repeat' split) <;> omega
  refine mmD_of (by omega) ?_
  rw [mSub_ok (by omega) (by omega)]
  refine q_m_isIn (fun y hyy => ⟨fun c2 => hy _ ?_, fun c2 => q_m_isIn (fun z hz => ⟨fun c3 => ?_, fun c3 => hy _ ?_⟩)⟩)
  · have := hyy.neg c2
    rw [hm] at this
    exact (letV_out (fun q => this (by obtain ⟨q1, q2, q3⟩ := q; rw [if_pos q1]; omega)) (fun q => this (by obtain ⟨q1, q2, q3⟩ := q; rw [if_neg (by omega), if_pos q1]; omega)) (fun q => this (by obtain ⟨q1, q2, q3⟩ := q; rw [if_neg (by omega), if_neg (by omega)]; omega))).symm
  · have hb := hyy.pos c2
    have hk := hz.pos c3
    rw [mMul_ok (by omega) (by omega), mAdd_ok (a := 30) (by omega) (by omega), mAdd_ok (by omega) (by omega)]
    refine mmD_of (by omega) ?_
    rw [hm] at hb
    have fin : ∀ (n i : Int), 30 + 10 * a + b = i → nmR n (h 314 i) → letV u g a b k = ltr n k → qB tFM (d + 2) k_m_letter (h 0 0) (h 0 1) Q 3 [(3, 282), (1, a), (1, b), (1, k), (2, h 314 (30 + 10 * a + b)), (0, 0), (1, 0), (2, h 314 (30 + 10 * a + b)), (0, 0)] [] h := by
      intro n i e hn el
      rw [e]
      exact q_m_letter3 hn hk.1 (by omega) (hy _ el.symm)
    rcases (by omega : a = 0 ∨ a = 1 ∨ a = 2) with q | q | q
    · rw [if_pos q] at hb
      refine fin _ (30 + b) (by omega) (r0 b (by omega) (by omega)) ?_
      unfold letV; rw [if_neg (by omega), if_pos (by omega)]
    · rw [if_neg (by omega), if_pos q] at hb
      refine fin _ (40 + b) (by omega) (r1 b (by omega) (by omega)) ?_
      unfold letV; rw [if_neg (by omega), if_neg (by omega), if_pos (by omega)]
    · rw [if_neg (by omega), if_neg (by omega)] at hb
      refine fin _ (50 + b) (by omega) (r2 b (by omega) (by omega)) ?_
      unfold letV; rw [if_neg (by omega), if_neg (by omega), if_neg (by omega), if_pos (by omega)]
  · unfold letV; rw [if_pos (by have := hz.neg (Decidable.of_not_not c3); omega)]
end LM
