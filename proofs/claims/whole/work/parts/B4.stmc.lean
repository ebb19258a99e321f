/-! ===== mm: statements, class side ===== -/
def St (v m : Int) (g : mmH) : Prop := Sc v g ∧ (0 ≤ g v 0 ∧ g v 0 ≤ 5) ∧ (0 ≤ g v 1 ∧ g v 1 ≤ 10) ∧ (0 ≤ g v 3 ∧ g v 3 ≤ 6) ∧ (0 ≤ g v 2 ∧ g v 2 ≤ m) ∧ (0 ≤ g (v + 33) 0 ∧ g (v + 33) 0 ≤ 8)
section SV
variable {v m : Int} {g g' : mmH}
theorem St_fr (hv : v = 5 ∨ v = 46) (hF : Fr (ScK v) g g') (hS : Sc v g') (h : St v m g) : St v m g' := by
  have f : ∀ k i, ¬ ScK v k i → g' k i = g k i := hF
  unfold St
  rw [f v 0 (by unfold ScK; omega), f v 1 (by unfold ScK; omega), f v 2 (by unfold ScK; omega), f v 3 (by unfold ScK; omega), f (v + 33) 0 (by unfold ScK; omega)]
  exact ⟨hS, h.2⟩
theorem St_beg {n k : Int} (hv : v = 5 ∨ v = 46) (h : St v m g) : St v m (begH n k g) := by
  unfold begH
  split
  · exact St_fr hv fr_ps (Sc_ps hv h.1) h
  · exact St_fr hv (fr_fl.tr fr_ps) (Sc_ps hv (Sc_fl hv h.1)) h
theorem St_nm (hv : v = 5 ∨ v = 46) (h : St v m g) : St v m (nmH g) := St_fr hv fr_nm (Sc_nm hv h.1) h
theorem St_rf {b : Bool} (hv : v = 5 ∨ v = 46) (h : St v m g) : St v m (rfH b g) := St_fr hv fr_rf (Sc_rf hv h.1) h
theorem St_newN (hv : v = 5 ∨ v = 46) (h : St v m g) : St v m (newN v g) := St_rf hv (St_nm hv h)
theorem St_ob (hv : v = 5 ∨ v = 46) (h : St v m g) : St v m (obH v g) := St_rf hv (St_nm hv h)
theorem St_lb (hv : v = 5 ∨ v = 46) (h : St v m g) : St v m (lbH v g) := St_rf hv (St_nm hv h)
theorem St_tw {w : Int} (hv : v = 5 ∨ v = 46) (h : St v m g) : St v m (twH w g) := St_fr hv fr_tw (Sc_tw hv h.1) h
theorem St_ts {c : Int} (hv : v = 5 ∨ v = 46) (hc : c ≠ -1) (h : St v m g) : St v m (tsH c g) := St_fr hv fr_ts (Sc_ts hv hc h.1) h
theorem St_nu {lo hi : Int} (hv : v = 5 ∨ v = 46) (h : St v m g) : St v m (nuH lo hi g) := St_fr hv fr_nu (Sc_nu hv h.1) h
theorem St_ps (hv : v = 5 ∨ v = 46) (h : St v m g) : St v m (psH g) := St_fr hv fr_ps (Sc_ps hv h.1) h
theorem St_sk (hv : v = 5 ∨ v = 46) (h : St v m g) : St v m (skH g) := St_fr hv fr_sk (Sc_sk hv h.1) h
/-- writing elsewhere in the town -/
theorem Sc_out {k i x : Int} (hv : v = 5 ∨ v = 46) (hk : k ≠ 3 ∧ k ≠ 2 ∧ k ≠ 45) (hk2 : ¬ (k = v + 33 ∧ i = 1)) (hS : Sc v g) : Sc v (mmS g k i x) := by
  obtain ⟨s1, s2, s3, s4, s5⟩ := hS
  refine ⟨?_, ?_, fun j j1 j2 => ?_, ?_, fun q q1 q2 => ?_⟩
  · rw [mmS_cell (by omega)]; exact s1
  · rw [mmS_cell (by omega), mmS_cell (by omega)]; exact s2
  · rw [mmS_cell (by omega)]; exact s3 j j1 j2
  · by_cases e : k = v + 33
    · subst e; rw [mmS_slot, if_neg (by omega)]; exact s4
    · rw [mmS_cell (by omega)]; exact s4
  · rw [mmS_cell (by omega)]; exact s5 q q1 q2
theorem St_out {k i x : Int} (hv : v = 5 ∨ v = 46) (hk : k ≠ 3 ∧ k ≠ 2 ∧ k ≠ 45) (hk2 : ¬ (k = v + 33 ∧ i ≤ 1)) (hk3 : ¬ (k = v ∧ i ≤ 3)) (h : St v m g) : St v m (mmS g k i x) := by
  have z : ∀ k' i', (k' = v ∧ i' ≤ 3) ∨ (k' = v + 33 ∧ i' ≤ 1) → mmS g k i x k' i' = g k' i' := fun k' i' q => by
    by_cases e : k' = k
    · subst e; rw [mmS_slot, if_neg (by omega)]
    · rw [mmS_cell e]
  unfold St
  rw [z v 0 (by omega), z v 1 (by omega), z v 2 (by omega), z v 3 (by omega), z (v + 33) 0 (by omega)]
  exact ⟨Sc_out hv hk (by omega) h.1, h.2⟩
theorem rwB2_iff {k i : Int} : rwB2 v g k i = true ↔ isLo v g k ∧ g (v + 5 + k) i ≠ 0 := @decide_eq_true_iff _ (Classical.propDecidable _)
theorem gaW_iff {a b : Int} : gaW v g a b = true ↔ a = b ∨ (isLo v g a ∧ isLo v g b ∧ g (v + 23 + a) b ≠ -1) := @decide_eq_true_iff _ (Classical.propDecidable _)
end SV
theorem nmzA : (∀ j, tFA 47 j = none) ∧ (∀ j, tFA 48 j = none) ∧ (∀ j, tFA 49 j = none) := by
  refine ⟨fun j => ?_, fun j => ?_, fun j => ?_⟩ <;> unfold tFA <;> rw [if_neg (by decide)] <;> rfl
theorem snzA : tSh 47 = (100, 5) ∧ tSh 48 = (100, 10) ∧ tSh 49 = (100, 6) := by decide +kernel
section SSA
variable {d : Nat} {h : mmH} {Q : Int → mmH → Prop} {m : Int}
theorem pA_placeOf {c n x : Int} {cap : Nat} (hsh : tSh c = (100, cap)) (hn : ∀ j, tFA c j = none) (n1 : 0 ≤ n) (n2 : n ≤ cap) (n3 : n ≤ 10) (hy : Q (plcE (h c) x n.toNat 0) h) : qC tFA (d + 1) k_Town_placeOf [x, c, n] h Q := by
  refine qC_intro (TA_Town_placeOf_0 _ _ _ _ _ _ _ _ ?_)
  have key : ∀ (j k : Nat), (k : Int) + j = n → plcE (h c) x n.toNat 0 = plcE (h c) x j (k : Int) → qB tFA d k_Town_placeOf (h 0 0) (h 0 1) Q 1 [(1, x), (3, c), (1, n), (1, (k : Int))] [] h := by
    intro j
    induction j with
    | zero =>
      intro k hk e
      rw [e] at hy
      exact TA_Town_placeOf_1 _ _ _ _ _ _ _ _ _ ⟨fun _ => hy, fun c => absurd (by omega) c⟩
    | succ j ih =>
      intro k hk e
      have e : plcE (h c) x n.toNat 0 = (if h c (k : Int) = x then (k : Int) else plcE (h c) x j ((k : Int) + 1)) := e
      refine TA_Town_placeOf_1 _ _ _ _ _ _ _ _ _ ⟨fun q => absurd q (by omega), fun _ => ?_⟩
      rw [hsh, hn]
      rw [mmG_iff, mmG_iff, mmD_iff]
      refine ⟨rfl, fun q => absurd q (by show ¬ ((cap : Nat) : Int) ≤ (k : Int); omega), fun _ => ⟨rfl, ⟨by omega, by show (k : Int) < ((cap : Nat) : Int); omega⟩, fun c5 => ?_, fun c5 => ?_⟩⟩
      · rw [Option.getD_none] at c5
        rw [if_neg c5] at e
        rw [mAdd_ok (by omega) (by omega), show (k : Int) + 1 = ((k + 1 : Nat) : Int) by omega]
        exact ih (k + 1) (by omega) e
      · rw [Option.getD_none] at c5
        rw [if_pos (Decidable.of_not_not c5)] at e
        rw [e] at hy
        exact hy
  exact key n.toNat 0 (by omega) rfl
theorem pA_ownerNamed {x : Int} (hS : St 46 m h) (hy : Q (plcE (h 47) x (h 46 0).toNat 0) h) : qC tFA (d + 2) k_Town_ownerNamed [46, x] h Q :=
  qC_intro (TA46_Town_ownerNamed_0 _ _ _ _ _ _ (pA_placeOf snzA.1 nmzA.1 hS.2.1.1 hS.2.1.2 (by have := hS.2.1.2; omega) hy))
theorem pA_lotNamed {x : Int} (hS : St 46 m h) (hy : Q (plcE (h 48) x (h 46 1).toNat 0) h) : qC tFA (d + 2) k_Town_lotNamed [46, x] h Q :=
  qC_intro (TA46_Town_lotNamed_0 _ _ _ _ _ _ (pA_placeOf snzA.2.1 nmzA.2.1 hS.2.2.1.1 hS.2.2.1.2 (by have := hS.2.2.1.2; omega) hy))
theorem pA_knows {x : Int} (hS : St 46 m h) (hy : ∀ y, YN y (knV 46 h x = true) → Q y h) : qC tFA (d + 3) k_Town_knows [46, x] h Q := by
  have hk : knV 46 h x = true ↔ (plcE (h 47) x (h 46 0).toNat 0 ≠ -1 ∨ plcE (h 48) x (h 46 1).toNat 0 ≠ -1 ∨ plcE (h 49) x (h 46 3).toNat 0 ≠ -1) := decide_eq_true_iff
  refine qC_intro (TA46_Town_knows_0 _ _ _ _ _ _ (pA_ownerNamed hS ⟨fun c => hy _ (YN.yes (hk.mpr (Or.inl c))), fun c => pA_lotNamed hS ⟨fun c2 => hy _ (YN.yes (hk.mpr (Or.inr (Or.inl c2)))), fun c2 => pA_placeOf snzA.2.2 nmzA.2.2 hS.2.2.2.1.1 hS.2.2.2.1.2 (by have := hS.2.2.2.1.2; omega) ⟨fun c3 => hy _ (YN.no (fun q => ?_)), fun c3 => hy _ (YN.yes (hk.mpr (Or.inr (Or.inr c3))))⟩⟩⟩))
  rcases hk.mp q with q | q | q
  · exact c q
  · exact c2 q
  · exact q c3
theorem pA_newName (hS : St 46 m h) (hy : Q (nmX h) (newN 46 h)) : qC tFA (d + 4) k_TownText_newName [3] h Q :=
  qC_intro (TA_TownText_newName_0 _ _ _ _ _ (pA_name hS.1 (pA_knows (St_nm (by decide) hS) (fun y hyy => pA_refuse (b := knV 46 (nmH h) (nmX h)) ⟨fun q => by rcases hyy with ⟨a, b⟩ | ⟨a, b⟩; omega; exact absurd q b, fun q => hyy.pos q⟩ hy))))
theorem pA_ownerBy (hS : St 46 m h) (hy : Q (obX 46 h) (obH 46 h)) : qC tFA (d + 4) k_TownText_ownerByName [3] h Q := by
  unfold obH at hy
  exact qC_intro (TA_TownText_ownerByName_0 _ _ _ _ _ (pA_name hS.1 (pA_ownerNamed (St_nm (by decide) hS) ⟨fun c => pA_refuse ⟨fun q => absurd (of_decide_eq_true q) c, fun q => absurd rfl q⟩ hy, fun c => pA_refuse ⟨fun _ => by decide, fun _ => decide_eq_true (Decidable.of_not_not c)⟩ hy⟩)))
theorem pA_lotBy (hS : St 46 m h) (hy : Q (lbX 46 h) (lbH 46 h)) : qC tFA (d + 4) k_TownText_lotByName [3] h Q := by
  unfold lbH at hy
  exact qC_intro (TA_TownText_lotByName_0 _ _ _ _ _ (pA_name hS.1 (pA_lotNamed (St_nm (by decide) hS) ⟨fun c => pA_refuse ⟨fun q => absurd (of_decide_eq_true q) c, fun q => absurd rfl q⟩ hy, fun c => pA_refuse ⟨fun _ => by decide, fun _ => decide_eq_true (Decidable.of_not_not c)⟩ hy⟩)))
theorem pA_begin {n k : Int} (hS : St 46 m h) (hy : Q 0 (begH n k h)) : qC tFA (d + 3) k_TownText_beginOneOf [3, n, k] h Q := by
  unfold begH at hy
  refine qC_intro (TA_TownText_beginOneOf_0 _ _ _ _ _ _ _ ⟨fun c => pA_passWord hS.1 ?_, fun c => pA_fail (pA_passWord (Sc_fl (by decide) hS.1) ?_)⟩)
  · rw [if_pos c] at hy; exact hy
  · rw [if_neg c] at hy; exact hy
theorem pA_readOwner (hS : St 46 m h) (hy : Q 0 (ownF 46 h)) : qC tFA (d + 5) k_TownText_readOwner [3] h Q := by
  unfold ownF okE at hy
  have S1 := St_beg (n := h 46 0) (k := 5) (by decide) hS
  have S2 := St_newN (by decide) S1
  refine qC_intro (TA_TownText_readOwner_0 _ _ _ _ _ (pA_begin hS (pA_newName S1 ⟨fun c => ?_, fun c => ?_⟩)))
  · rw [if_pos c] at hy; exact hy
  · rw [if_neg c] at hy
    unfold adO at hy
    simp only [Int.reduceAdd] at hy
    have s := S2.2.1
    refine qC_intro (TA46_Town_addOwner_0 _ _ _ _ _ _ ⟨fun c2 => ?_, fun c2 => mmD_of (by omega) ?_⟩)
    · rw [if_neg (by omega)] at hy; exact hy
    · rw [if_pos (by omega)] at hy
      rw [mAdd_ok (by omega) (by omega)]
      exact hy
theorem pA_addLot {x o e t : Int} (hS : St 46 m h) (hy : Q 0 (adL 46 x o e t h)) : qC tFA (d + 1) k_Town_addLot [46, x, o, e, t] h Q := by
  unfold adL at hy
  simp only [Int.reduceAdd] at hy
  have s := hS.2.2.1
  refine qC_intro (TA46_Town_addLot_0 _ _ _ _ _ _ _ _ _ ⟨fun c2 => ?_, fun c2 => mmD_of (by omega) ?_⟩)
  · rw [if_neg (by omega)] at hy; exact hy
  · rw [if_pos (by omega)] at hy
    have r : ∀ (g : mmH) (k i y : Int), k ≠ 46 → mmS g k i y 46 1 = g 46 1 := fun g k i y q => mmS_cell (Ne.symm q)
    refine TA46_Town_addLot_0_10 _ _ _ _ _ _ _ _ _ ?_
    simp (disch := omega) only [r, mmD_iff, mmG_iff, Bool.and_eq_true, Bool.or_eq_true, Nat.beq_refl, true_and, and_true, Option.getD_none, Option.isNone_none, decide_eq_true_eq, lc_lt0, lc_gt0, lc_le0, lc_ge0, lc_eq0, lc_ne0, ite_true, ite_false, fc_tFA_9, fn_tFA_9, fc_tFB_9, fn_tFB_9, sh_9, wn_9, fc_tFA_50, fn_tFA_50, fc_tFB_50, fn_tFB_50, sh_50, wn_50, fc_tFA_20, fn_tFA_20, fc_tFB_20, fn_tFB_20, sh_20, wn_20, fc_tFA_61, fn_tFA_61, fc_tFB_61, fn_tFB_61, sh_61, wn_61, fc_tFA_27, fn_tFA_27, fc_tFB_27, fn_tFB_27, sh_27, wn_27, fc_tFA_68, fn_tFA_68, fc_tFB_68, fn_tFB_68, sh_68, wn_68, fc_tFA_91, fn_tFA_91, fc_tFB_91, fn_tFB_91, sh_91, wn_91]
    refine ⟨by omega, by omega, TA46_Town_addLot_0_18 _ _ _ _ _ _ _ _ _ ?_⟩
    simp (disch := omega) only [r, mmD_iff, mmG_iff, Bool.and_eq_true, Bool.or_eq_true, Nat.beq_refl, true_and, and_true, Option.getD_none, Option.isNone_none, decide_eq_true_eq, lc_lt0, lc_gt0, lc_le0, lc_ge0, lc_eq0, lc_ne0, ite_true, ite_false, fc_tFA_9, fn_tFA_9, fc_tFB_9, fn_tFB_9, sh_9, wn_9, fc_tFA_50, fn_tFA_50, fc_tFB_50, fn_tFB_50, sh_50, wn_50, fc_tFA_20, fn_tFA_20, fc_tFB_20, fn_tFB_20, sh_20, wn_20, fc_tFA_61, fn_tFA_61, fc_tFB_61, fn_tFB_61, sh_61, wn_61, fc_tFA_27, fn_tFA_27, fc_tFB_27, fn_tFB_27, sh_27, wn_27, fc_tFA_68, fn_tFA_68, fc_tFB_68, fn_tFB_68, sh_68, wn_68, fc_tFA_91, fn_tFA_91, fc_tFB_91, fn_tFB_91, sh_91, wn_91]
    refine ⟨by omega, by omega, TA46_Town_addLot_0_26 _ _ _ _ _ _ _ _ _ ?_⟩
    simp (disch := omega) only [r, mmD_iff, mmG_iff, Bool.and_eq_true, Bool.or_eq_true, Nat.beq_refl, true_and, and_true, Option.getD_none, Option.isNone_none, decide_eq_true_eq, lc_lt0, lc_gt0, lc_le0, lc_ge0, lc_eq0, lc_ne0, ite_true, ite_false, fc_tFA_9, fn_tFA_9, fc_tFB_9, fn_tFB_9, sh_9, wn_9, fc_tFA_50, fn_tFA_50, fc_tFB_50, fn_tFB_50, sh_50, wn_50, fc_tFA_20, fn_tFA_20, fc_tFB_20, fn_tFB_20, sh_20, wn_20, fc_tFA_61, fn_tFA_61, fc_tFB_61, fn_tFB_61, sh_61, wn_61, fc_tFA_27, fn_tFA_27, fc_tFB_27, fn_tFB_27, sh_27, wn_27, fc_tFA_68, fn_tFA_68, fc_tFB_68, fn_tFB_68, sh_68, wn_68, fc_tFA_91, fn_tFA_91, fc_tFB_91, fn_tFB_91, sh_91, wn_91]
    refine ⟨by omega, by omega, TA46_Town_addLot_0_34 _ _ _ _ _ _ _ _ _ ?_⟩
    simp (disch := omega) only [r, mmD_iff, mmG_iff, Bool.and_eq_true, Bool.or_eq_true, Nat.beq_refl, true_and, and_true, Option.getD_none, Option.isNone_none, decide_eq_true_eq, lc_lt0, lc_gt0, lc_le0, lc_ge0, lc_eq0, lc_ne0, ite_true, ite_false, fc_tFA_9, fn_tFA_9, fc_tFB_9, fn_tFB_9, sh_9, wn_9, fc_tFA_50, fn_tFA_50, fc_tFB_50, fn_tFB_50, sh_50, wn_50, fc_tFA_20, fn_tFA_20, fc_tFB_20, fn_tFB_20, sh_20, wn_20, fc_tFA_61, fn_tFA_61, fc_tFB_61, fn_tFB_61, sh_61, wn_61, fc_tFA_27, fn_tFA_27, fc_tFB_27, fn_tFB_27, sh_27, wn_27, fc_tFA_68, fn_tFA_68, fc_tFB_68, fn_tFB_68, sh_68, wn_68, fc_tFA_91, fn_tFA_91, fc_tFB_91, fn_tFB_91, sh_91, wn_91]
    refine ⟨by omega, by omega, TA46_Town_addLot_0_42 _ _ _ _ _ _ _ _ _ ?_⟩
    simp (disch := omega) only [r, mmD_iff, mmG_iff, Bool.and_eq_true, Bool.or_eq_true, Nat.beq_refl, true_and, and_true, Option.getD_none, Option.isNone_none, decide_eq_true_eq, lc_lt0, lc_gt0, lc_le0, lc_ge0, lc_eq0, lc_ne0, ite_true, ite_false, fc_tFA_9, fn_tFA_9, fc_tFB_9, fn_tFB_9, sh_9, wn_9, fc_tFA_50, fn_tFA_50, fc_tFB_50, fn_tFB_50, sh_50, wn_50, fc_tFA_20, fn_tFA_20, fc_tFB_20, fn_tFB_20, sh_20, wn_20, fc_tFA_61, fn_tFA_61, fc_tFB_61, fn_tFB_61, sh_61, wn_61, fc_tFA_27, fn_tFA_27, fc_tFB_27, fn_tFB_27, sh_27, wn_27, fc_tFA_68, fn_tFA_68, fc_tFB_68, fn_tFB_68, sh_68, wn_68, fc_tFA_91, fn_tFA_91, fc_tFB_91, fn_tFB_91, sh_91, wn_91]
    rw [mAdd_ok (by omega) (by omega)]
    exact ⟨by omega, by omega, hy⟩
theorem pA_readLot (hS : St 46 m h) (hy : Q 0 (lotF 46 h)) : qC tFA (d + 5) k_TownText_readLot [3] h Q := by
  unfold lotF okE at hy
  have S1 := St_beg (n := h 46 1) (k := 10) (by decide) hS
  have S2 := St_newN (by decide) S1
  have S3 := St_tw (w := 2) (by decide) S2
  have S4 := St_ob (by decide) S3
  have S5 := St_tw (w := 3) (by decide) S4
  have S6 := St_nu (lo := 0) (hi := 20) (by decide) S5
  have S7 := St_tw (w := 4) (by decide) S6
  have S8 := St_nu (lo := 0) (hi := 30) (by decide) S7
  refine qC_intro (TA_TownText_readLot_0 _ _ _ _ _ (pA_begin hS (pA_newName S1 (pA_takeWord S2.1 (pA_ownerBy S3 (TA_TownText_readLot_0_14 _ _ _ _ _ _ _ (pA_takeWord S4.1 (pA_number S5.1 (pA_takeWord S6.1 (pA_number S7.1 ⟨fun c => ?_, fun c => ?_⟩))))))))))
  · rw [if_pos (show loD 46 h 3 0 ≠ 0 from c)] at hy; exact hy
  · rw [if_neg (show ¬ loD 46 h 3 0 ≠ 0 from c)] at hy
    exact pA_addLot S8 hy
theorem pA_readInn (hS : St 46 m h) (hy : Q 0 (innF 46 h)) : qC tFA (d + 5) k_TownText_readInn [3] h Q := by
  unfold innF okE at hy
  have S1 := St_ps (by decide) hS
  have S2 := St_lb (by decide) S1
  have S3 := St_rf (b := rwB2 46 (lbH 46 (psH h)) (lbX 46 (psH h)) 3) (by decide) S2
  have S4 : St 46 m (inA 46 h) := St_tw (w := 6) (by decide) S3
  have S5 := St_nu (lo := 1) (hi := 9) (by decide) S4
  have rw2 := rwB2_iff (v := 46) (g := lbH 46 (psH h)) (k := lbX 46 (psH h)) (i := 3)
  unfold isLo at rw2
  simp only [Int.reduceAdd] at rw2
  have b2 : ∀ s0, (rwB2 46 (lbH 46 (psH h)) (lbX 46 (psH h)) 3 = true ↔ s0 ≠ 0) → qB tFA (d + 4) k_TownText_readInn (h 0 0) (h 0 1) Q 2 [(3, 3), (1, lbX 46 (psH h)), (0, 0)] [(1, s0), (3, 3)] (lbH 46 (psH h)) := by
    intro s0 hs
    refine TA_TownText_readInn_2 _ _ _ _ _ _ _ (pA_refuse hs (pA_takeWord S3.1 ?_))
    show qC tFA (d + 4) k_TownText_number [3, 1, 9] (inA 46 h) _
    refine pA_number S4.1 ⟨fun c => ?_, fun c => pA46_isLot (fun y hyy => ⟨fun c2 => ?_, fun c2 => ?_⟩)⟩
    · rw [if_pos c] at hy; exact hy
    · rw [if_neg c] at hy
      unfold setL isLo at hy
      rw [if_neg (hyy.neg c2)] at hy
      exact hy
    · rw [if_neg c] at hy
      have hl := hyy.pos c2
      have hl5 : lbX 46 (psH h) < 10 := by have := S5.2.2.1.2; have := hl.2; omega
      unfold setL isLo at hy
      rw [if_pos hl] at hy
      simp only [Int.reduceAdd] at hy
      simp (disch := omega) only [mmD_iff, mmG_iff, Bool.and_eq_true, Bool.or_eq_true, Nat.beq_refl, true_and, and_true, Option.getD_none, Option.isNone_none, decide_eq_true_eq, lc_lt0, lc_gt0, lc_le0, lc_ge0, lc_eq0, lc_ne0, ite_true, ite_false, fc_tFA_9, fn_tFA_9, fc_tFB_9, fn_tFB_9, sh_9, wn_9, fc_tFA_50, fn_tFA_50, fc_tFB_50, fn_tFB_50, sh_50, wn_50, fc_tFA_20, fn_tFA_20, fc_tFB_20, fn_tFB_20, sh_20, wn_20, fc_tFA_61, fn_tFA_61, fc_tFB_61, fn_tFB_61, sh_61, wn_61, fc_tFA_27, fn_tFA_27, fc_tFB_27, fn_tFB_27, sh_27, wn_27, fc_tFA_68, fn_tFA_68, fc_tFB_68, fn_tFB_68, sh_68, wn_68, fc_tFA_91, fn_tFA_91, fc_tFB_91, fn_tFB_91, sh_91, wn_91]
      exact ⟨by omega, by omega, hy⟩
  refine qC_intro (TA_TownText_readInn_0 _ _ _ _ _ (pA_passWord hS.1 (pA_lotBy S1 (pA46_isLot (fun y hyy => ⟨fun c => b2 0 ⟨fun q => absurd (rw2.mp q).1 (hyy.neg c), fun q => absurd rfl q⟩, fun c => ?_⟩)))))
  have hl := hyy.pos c
  have hl5 : lbX 46 (psH h) < 10 := by have := S2.2.2.1.2; have := hl.2; omega
  simp (disch := omega) only [mmD_iff, mmG_iff, Bool.and_eq_true, Bool.or_eq_true, Nat.beq_refl, true_and, and_true, Option.getD_none, Option.isNone_none, decide_eq_true_eq, lc_lt0, lc_gt0, lc_le0, lc_ge0, lc_eq0, lc_ne0, ite_true, ite_false, fc_tFA_9, fn_tFA_9, fc_tFB_9, fn_tFB_9, sh_9, wn_9, fc_tFA_50, fn_tFA_50, fc_tFB_50, fn_tFB_50, sh_50, wn_50, fc_tFA_20, fn_tFA_20, fc_tFB_20, fn_tFB_20, sh_20, wn_20, fc_tFA_61, fn_tFA_61, fc_tFB_61, fn_tFB_61, sh_61, wn_61, fc_tFA_27, fn_tFA_27, fc_tFB_27, fn_tFB_27, sh_27, wn_27, fc_tFA_68, fn_tFA_68, fc_tFB_68, fn_tFB_68, sh_68, wn_68, fc_tFA_91, fn_tFA_91, fc_tFB_91, fn_tFB_91, sh_91, wn_91]
  exact ⟨by omega, by omega, fun c2 => b2 0 ⟨fun q => absurd c2 (rw2.mp q).2, fun q => absurd rfl q⟩, fun c2 => b2 1 ⟨fun _ => by decide, fun _ => rw2.mpr ⟨hl, c2⟩⟩⟩
theorem pA_readStork (hS : St 46 m h) (hy : Q 0 (stoF 46 h)) : qC tFA (d + 5) k_TownText_readStork [3] h Q := by
  unfold stoF okE at hy
  have S1 := St_ps (by decide) hS
  have S2 := St_lb (by decide) S1
  have S3 : St 46 m (stA 46 h) := St_rf (b := rwB2 46 (lbH 46 (psH h)) (lbX 46 (psH h)) 4) (by decide) S2
  have rw2 := rwB2_iff (v := 46) (g := lbH 46 (psH h)) (k := lbX 46 (psH h)) (i := 4)
  unfold isLo at rw2
  simp only [Int.reduceAdd] at rw2
  have b2 : ∀ s0, (rwB2 46 (lbH 46 (psH h)) (lbX 46 (psH h)) 4 = true ↔ s0 ≠ 0) → qB tFA (d + 4) k_TownText_readStork (h 0 0) (h 0 1) Q 2 [(3, 3), (1, lbX 46 (psH h))] [(1, s0), (3, 3)] (lbH 46 (psH h)) := by
    intro s0 hs
    refine TA_TownText_readStork_2 _ _ _ _ _ _ _ (pA_refuse hs ?_)
    rw [show rfH (rwB2 46 (lbH 46 (psH h)) (lbX 46 (psH h)) 4) (lbH 46 (psH h)) = stA 46 h from rfl]
    refine ⟨fun c => ?_, fun c => pA46_isLot (fun y hyy => ⟨fun c2 => ?_, fun c2 => ?_⟩)⟩
    · rw [if_pos c] at hy; exact hy
    · rw [if_neg c] at hy
      unfold setL isLo at hy
      rw [if_neg (hyy.neg c2)] at hy
      exact hy
    · rw [if_neg c] at hy
      have hl := hyy.pos c2
      have hl5 : lbX 46 (psH h) < 10 := by have := S3.2.2.1.2; have := hl.2; omega
      unfold setL isLo at hy
      rw [if_pos hl] at hy
      simp only [Int.reduceAdd] at hy
      simp (disch := omega) only [mmD_iff, mmG_iff, Bool.and_eq_true, Bool.or_eq_true, Nat.beq_refl, true_and, and_true, Option.getD_none, Option.isNone_none, decide_eq_true_eq, lc_lt0, lc_gt0, lc_le0, lc_ge0, lc_eq0, lc_ne0, ite_true, ite_false, fc_tFA_9, fn_tFA_9, fc_tFB_9, fn_tFB_9, sh_9, wn_9, fc_tFA_50, fn_tFA_50, fc_tFB_50, fn_tFB_50, sh_50, wn_50, fc_tFA_20, fn_tFA_20, fc_tFB_20, fn_tFB_20, sh_20, wn_20, fc_tFA_61, fn_tFA_61, fc_tFB_61, fn_tFB_61, sh_61, wn_61, fc_tFA_27, fn_tFA_27, fc_tFB_27, fn_tFB_27, sh_27, wn_27, fc_tFA_68, fn_tFA_68, fc_tFB_68, fn_tFB_68, sh_68, wn_68, fc_tFA_91, fn_tFA_91, fc_tFB_91, fn_tFB_91, sh_91, wn_91]
      exact ⟨by omega, by omega, hy⟩
  refine qC_intro (TA_TownText_readStork_0 _ _ _ _ _ (pA_passWord hS.1 (pA_lotBy S1 (pA46_isLot (fun y hyy => ⟨fun c => b2 0 ⟨fun q => absurd (rw2.mp q).1 (hyy.neg c), fun q => absurd rfl q⟩, fun c => ?_⟩)))))
  have hl := hyy.pos c
  have hl5 : lbX 46 (psH h) < 10 := by have := S2.2.2.1.2; have := hl.2; omega
  simp (disch := omega) only [mmD_iff, mmG_iff, Bool.and_eq_true, Bool.or_eq_true, Nat.beq_refl, true_and, and_true, Option.getD_none, Option.isNone_none, decide_eq_true_eq, lc_lt0, lc_gt0, lc_le0, lc_ge0, lc_eq0, lc_ne0, ite_true, ite_false, fc_tFA_9, fn_tFA_9, fc_tFB_9, fn_tFB_9, sh_9, wn_9, fc_tFA_50, fn_tFA_50, fc_tFB_50, fn_tFB_50, sh_50, wn_50, fc_tFA_20, fn_tFA_20, fc_tFB_20, fn_tFB_20, sh_20, wn_20, fc_tFA_61, fn_tFA_61, fc_tFB_61, fn_tFB_61, sh_61, wn_61, fc_tFA_27, fn_tFA_27, fc_tFB_27, fn_tFB_27, sh_27, wn_27, fc_tFA_68, fn_tFA_68, fc_tFB_68, fn_tFB_68, sh_68, wn_68, fc_tFA_91, fn_tFA_91, fc_tFB_91, fn_tFB_91, sh_91, wn_91]
  exact ⟨by omega, by omega, fun c2 => b2 0 ⟨fun q => absurd c2 (rw2.mp q).2, fun q => absurd rfl q⟩, fun c2 => b2 1 ⟨fun _ => by decide, fun _ => rw2.mpr ⟨hl, c2⟩⟩⟩
theorem pA_readGap (hm : m ≤ 100) (hS : St 46 m h) (hy : Q 0 (gapF 46 h)) : qC tFA (d + 5) k_TownText_readGap [3] h Q := by
  unfold gapF okE at hy
  have S1 : St 46 m (gaA 46 h) := St_beg (n := h 46 2) (k := 20) (by decide) hS
  have S2 : St 46 m (gaB 46 h) := St_lb (by decide) S1
  have S3 : St 46 m (gaC 46 h) := St_lb (by decide) S2
  have S4 := St_rf (b := gaW 46 (gaC 46 h) (lbX 46 (gaA 46 h)) (lbX 46 (gaB 46 h))) (by decide) S3
  have S5 : St 46 m (gaD 46 h) := St_tw (w := 9) (by decide) S4
  have S6 := St_nu (lo := 0) (hi := 9) (by decide) S5
  have gw := gaW_iff (v := 46) (g := gaC 46 h) (a := lbX 46 (gaA 46 h)) (b := lbX 46 (gaB 46 h))
  unfold isLo at gw
  simp only [Int.reduceAdd] at gw
  have b3 : ∀ s0, (gaW 46 (gaC 46 h) (lbX 46 (gaA 46 h)) (lbX 46 (gaB 46 h)) = true ↔ s0 ≠ 0) → qB tFA (d + 4) k_TownText_readGap (h 0 0) (h 0 1) Q 3 [(3, 3), (1, lbX 46 (gaA 46 h)), (1, lbX 46 (gaB 46 h)), (0, 0)] [(1, s0), (3, 3)] (gaC 46 h) := by
    intro s0 hs
    refine TA_TownText_readGap_3 _ _ _ _ _ _ _ _ (pA_refuse hs (pA_takeWord S4.1 ?_))
    show qC tFA (d + 4) k_TownText_number [3, 0, 9] (gaD 46 h) _
    refine pA_number S5.1 ⟨fun c => ?_, fun c => ?_⟩
    · rw [if_pos c] at hy; exact hy
    · rw [if_neg c] at hy
      unfold adG isLo at hy
      have s := S6.2
      refine qC_intro (TA46_Town_addGap_0 _ _ _ _ _ _ _ _ (pA46_isLot (fun y hyy => ⟨fun c2 => ?_, fun c2 => pA46_isLot (fun z hz => ⟨fun c3 => ?_, fun c3 => ?_⟩)⟩)))
      · rw [if_neg (fun q => hyy.neg c2 q.1)] at hy; exact hy
      · rw [if_neg (fun q => hz.neg c3 q.2)] at hy; exact hy
      · have h1 := hyy.pos c2
        have h2 := hz.pos c3
        rw [if_pos ⟨h1, h2⟩] at hy
        simp only [Int.reduceAdd] at hy
        simp (disch := omega) only [mmD_iff, mmG_iff, Bool.and_eq_true, Bool.or_eq_true, Nat.beq_refl, true_and, and_true, Option.getD_none, Option.isNone_none, decide_eq_true_eq, lc_lt0, lc_gt0, lc_le0, lc_ge0, lc_eq0, lc_ne0, ite_true, ite_false, fc_tFA_9, fn_tFA_9, fc_tFB_9, fn_tFB_9, sh_9, wn_9, fc_tFA_50, fn_tFA_50, fc_tFB_50, fn_tFB_50, sh_50, wn_50, fc_tFA_20, fn_tFA_20, fc_tFB_20, fn_tFB_20, sh_20, wn_20, fc_tFA_61, fn_tFA_61, fc_tFB_61, fn_tFB_61, sh_61, wn_61, fc_tFA_27, fn_tFA_27, fc_tFB_27, fn_tFB_27, sh_27, wn_27, fc_tFA_68, fn_tFA_68, fc_tFB_68, fn_tFB_68, sh_68, wn_68, fc_tFA_91, fn_tFA_91, fc_tFB_91, fn_tFB_91, sh_91, wn_91]
        rw [mmS_cell (by omega), mmS_cell (by omega), mAdd_ok (by omega) (by omega)]
        exact ⟨by omega, by omega, by omega, by omega, hy⟩
  refine qC_intro (TA_TownText_readGap_0 _ _ _ _ _ (pA_begin hS ?_))
  show qC tFA (d + 4) k_TownText_lotByName [3] (gaA 46 h) _
  refine pA_lotBy S1 ?_
  show qC tFA (d + 4) k_TownText_lotByName [3] (gaB 46 h) _
  refine pA_lotBy S2 ?_
  rw [show lbH 46 (gaB 46 h) = gaC 46 h from rfl]
  refine ⟨fun c => b3 1 ⟨fun _ => by decide, fun _ => gw.mpr (Or.inl c)⟩, fun c => pA46_wideOf S3.2.2.1.2 (fun w hw => ⟨fun c2 => b3 0 ⟨fun q => ?_, fun q => absurd rfl q⟩, fun c2 => b3 1 ⟨fun _ => by decide, fun _ => gw.mpr (Or.inr ?_)⟩⟩)⟩
  · rcases gw.mp q with q | ⟨q1, q2, q3⟩
    · exact absurd q c
    · rcases hw with ⟨w1, w2, w3⟩ | ⟨w1, w2⟩
      · exact absurd (by rw [← w3]; exact c2) q3
      · exact absurd ⟨q1, q2⟩ w2
  · rcases hw with ⟨w1, w2, w3⟩ | ⟨w1, w2⟩
    · exact ⟨w1, w2, by rw [← w3]; exact c2⟩
    · exact absurd w1 c2
theorem pA_readPerson (hS : St 46 m h) (hy : Q 0 (perF 46 h)) : qC tFA (d + 5) k_TownText_readPerson [3] h Q := by
  have hv : (46 : Int) = 5 ∨ (46 : Int) = 46 := by decide
  unfold perF okE at hy
  have S1 := St_beg (n := h 46 3) (k := 6) hv hS
  have S2 : St 46 m (peA 46 h) := St_newN hv S1
  have hr : 0 ≤ peR 46 h ∧ peR 46 h < 6 := by
    have := S2.2.2.2.1
    unfold peR mMin
    split <;> omega
  have SW : ∀ w lo hi i g, St 46 m g → St 46 m (peW 46 (peR 46 h) w lo hi i g) := fun w lo hi i g q => St_out hv (by omega) (by omega) (by omega) (St_nu hv (St_tw hv q))
  have SL : ∀ w i g, St 46 m g → St 46 m (peL 46 (peR 46 h) w i g) := fun w i g q => St_out hv (by omega) (by omega) (by omega) (St_lb hv (St_tw hv q))
  have P1 := SW 11 1 99 0 _ S2
  have P2 := SW 12 0 9 1 _ P1
  have P3 := SW 13 0 20 2 _ P2
  have P4 : St 46 m (peB 46 h) := SW 14 0 9 3 _ P3
  have P5 := SL 15 4 _ P4
  have P6 : St 46 m (peC 46 h) := SL 16 5 _ P5
  have P7 : St 46 m (peD 46 h) := St_rf hv P6
  refine qC_intro (TA_TownText_readPerson_0 _ _ _ _ _ (pA_begin hS (pA_newName S1 (qC_intro (TA46_Town_nextPersonRow_0 _ _ _ _ _ ?_)))))
  have eR : mMin (newN 46 (begH (h 46 3) 6 h) 46 3) 5 = peR 46 h := rfl
  rw [eR]
  simp (disch := omega) only [mmD_iff, mmG_iff, Bool.and_eq_true, Bool.or_eq_true, Nat.beq_refl, true_and, and_true, Option.getD_none, Option.isNone_none, decide_eq_true_eq, lc_lt0, lc_gt0, lc_le0, lc_ge0, lc_eq0, lc_ne0, ite_true, ite_false, fc_tFA_9, fn_tFA_9, fc_tFB_9, fn_tFB_9, sh_9, wn_9, fc_tFA_50, fn_tFA_50, fc_tFB_50, fn_tFB_50, sh_50, wn_50, fc_tFA_20, fn_tFA_20, fc_tFB_20, fn_tFB_20, sh_20, wn_20, fc_tFA_61, fn_tFA_61, fc_tFB_61, fn_tFB_61, sh_61, wn_61, fc_tFA_27, fn_tFA_27, fc_tFB_27, fn_tFB_27, sh_27, wn_27, fc_tFA_68, fn_tFA_68, fc_tFB_68, fn_tFB_68, sh_68, wn_68, fc_tFA_91, fn_tFA_91, fc_tFB_91, fn_tFB_91, sh_91, wn_91]
  refine ⟨by omega, pA_takeWord S2.1 (TA_TownText_readPerson_0_16 _ _ _ _ _ _ _ (pA_number (St_tw hv S2).1 ?_))⟩
  simp (disch := omega) only [mmD_iff, mmG_iff, Bool.and_eq_true, Bool.or_eq_true, Nat.beq_refl, true_and, and_true, Option.getD_none, Option.isNone_none, decide_eq_true_eq, lc_lt0, lc_gt0, lc_le0, lc_ge0, lc_eq0, lc_ne0, ite_true, ite_false, fc_tFA_9, fn_tFA_9, fc_tFB_9, fn_tFB_9, sh_9, wn_9, fc_tFA_50, fn_tFA_50, fc_tFB_50, fn_tFB_50, sh_50, wn_50, fc_tFA_20, fn_tFA_20, fc_tFB_20, fn_tFB_20, sh_20, wn_20, fc_tFA_61, fn_tFA_61, fc_tFB_61, fn_tFB_61, sh_61, wn_61, fc_tFA_27, fn_tFA_27, fc_tFB_27, fn_tFB_27, sh_27, wn_27, fc_tFA_68, fn_tFA_68, fc_tFB_68, fn_tFB_68, sh_68, wn_68, fc_tFA_91, fn_tFA_91, fc_tFB_91, fn_tFB_91, sh_91, wn_91]
  refine ⟨by omega, pA_takeWord P1.1 (pA_number (St_tw hv P1).1 ⟨by omega, TA_TownText_readPerson_0_33 _ _ _ _ _ _ _ (pA_takeWord P2.1 (pA_number (St_tw hv P2).1 ?_))⟩)⟩
  simp (disch := omega) only [mmD_iff, mmG_iff, Bool.and_eq_true, Bool.or_eq_true, Nat.beq_refl, true_and, and_true, Option.getD_none, Option.isNone_none, decide_eq_true_eq, lc_lt0, lc_gt0, lc_le0, lc_ge0, lc_eq0, lc_ne0, ite_true, ite_false, fc_tFA_9, fn_tFA_9, fc_tFB_9, fn_tFB_9, sh_9, wn_9, fc_tFA_50, fn_tFA_50, fc_tFB_50, fn_tFB_50, sh_50, wn_50, fc_tFA_20, fn_tFA_20, fc_tFB_20, fn_tFB_20, sh_20, wn_20, fc_tFA_61, fn_tFA_61, fc_tFB_61, fn_tFB_61, sh_61, wn_61, fc_tFA_27, fn_tFA_27, fc_tFB_27, fn_tFB_27, sh_27, wn_27, fc_tFA_68, fn_tFA_68, fc_tFB_68, fn_tFB_68, sh_68, wn_68, fc_tFA_91, fn_tFA_91, fc_tFB_91, fn_tFB_91, sh_91, wn_91]
  refine ⟨by omega, pA_takeWord P3.1 (pA_number (St_tw hv P3).1 (TA_TownText_readPerson_0_52 _ _ _ _ _ _ _ _ _ _ ?_))⟩
  simp (disch := omega) only [mmD_iff, mmG_iff, Bool.and_eq_true, Bool.or_eq_true, Nat.beq_refl, true_and, and_true, Option.getD_none, Option.isNone_none, decide_eq_true_eq, lc_lt0, lc_gt0, lc_le0, lc_ge0, lc_eq0, lc_ne0, ite_true, ite_false, fc_tFA_9, fn_tFA_9, fc_tFB_9, fn_tFB_9, sh_9, wn_9, fc_tFA_50, fn_tFA_50, fc_tFB_50, fn_tFB_50, sh_50, wn_50, fc_tFA_20, fn_tFA_20, fc_tFB_20, fn_tFB_20, sh_20, wn_20, fc_tFA_61, fn_tFA_61, fc_tFB_61, fn_tFB_61, sh_61, wn_61, fc_tFA_27, fn_tFA_27, fc_tFB_27, fn_tFB_27, sh_27, wn_27, fc_tFA_68, fn_tFA_68, fc_tFB_68, fn_tFB_68, sh_68, wn_68, fc_tFA_91, fn_tFA_91, fc_tFB_91, fn_tFB_91, sh_91, wn_91]
  refine ⟨by omega, pA_takeWord P4.1 (pA_lotBy (St_tw hv P4) ⟨by omega, pA_takeWord P5.1 (TA_TownText_readPerson_0_64 _ _ _ _ _ _ _ (pA_lotBy (St_tw hv P5) ?_))⟩)⟩
  simp (disch := omega) only [mmD_iff, mmG_iff, Bool.and_eq_true, Bool.or_eq_true, Nat.beq_refl, true_and, and_true, Option.getD_none, Option.isNone_none, decide_eq_true_eq, lc_lt0, lc_gt0, lc_le0, lc_ge0, lc_eq0, lc_ne0, ite_true, ite_false, fc_tFA_9, fn_tFA_9, fc_tFB_9, fn_tFB_9, sh_9, wn_9, fc_tFA_50, fn_tFA_50, fc_tFB_50, fn_tFB_50, sh_50, wn_50, fc_tFA_20, fn_tFA_20, fc_tFB_20, fn_tFB_20, sh_20, wn_20, fc_tFA_61, fn_tFA_61, fc_tFB_61, fn_tFB_61, sh_61, wn_61, fc_tFA_27, fn_tFA_27, fc_tFB_27, fn_tFB_27, sh_27, wn_27, fc_tFA_68, fn_tFA_68, fc_tFB_68, fn_tFB_68, sh_68, wn_68, fc_tFA_91, fn_tFA_91, fc_tFB_91, fn_tFB_91, sh_91, wn_91]
  have add : peD 46 h 3 0 = 0 → qC tFA (d + 4) k_Town_addPerson [46, nmX (begH (h 46 3) 6 h)] (peD 46 h) (fun _ h4 => Q 0 h4) := by
    intro c
    rw [if_neg (fun q => q c)] at hy
    unfold adP at hy
    simp only [Int.reduceAdd] at hy
    have s := P7.2.2.2.1
    refine qC_intro (TA46_Town_addPerson_0 _ _ _ _ _ _ ⟨fun c2 => ?_, fun c2 => mmD_of (by omega) ?_⟩)
    · rw [if_neg (by omega)] at hy; exact hy
    · rw [if_pos (by omega)] at hy
      rw [mAdd_ok (by omega) (by omega)]
      exact hy
  have fin : ∀ s0, (decide (peC 46 h (46 + 16 + peR 46 h) 4 = peC 46 h (46 + 16 + peR 46 h) 5) = true ↔ s0 ≠ 0) → qC tFA (d + 4) k_TownText_refuseNameIf [3, s0] (peC 46 h) (fun _ h3 => ((h3 3 0) ≠ 0 → Q 0 h3) ∧ (¬ ((h3 3 0) ≠ 0) → qC tFA (d + 4) k_Town_addPerson [46, nmX (begH (h 46 3) 6 h)] h3 (fun _ h4 => Q 0 h4))) := by
    intro s0 hs
    refine pA_refuse hs ⟨fun c => ?_, fun c => add (Decidable.of_not_not c)⟩
    rw [if_pos (show peD 46 h 3 0 ≠ 0 from c)] at hy
    exact hy
  simp only [Int.reduceAdd] at fin
  refine ⟨by omega, by omega, by omega, fun c => fin 0 ⟨fun q => absurd (of_decide_eq_true q) c, fun q => absurd rfl q⟩, fun c => fin 1 ⟨fun _ => by decide, fun _ => decide_eq_true (Decidable.of_not_not c)⟩⟩
theorem pA_readLaw {s : Bool} {a : Int} (ha : a = if s = true then 1 else 0) (hS : St 46 m h) (hy : Q 0 (lawF 46 s h)) : qC tFA (d + 64) k_TownText_readLaw [3, a] h Q := by
  have hv : (46 : Int) = 5 ∨ (46 : Int) = 46 := by decide
  unfold lawF okE at hy
  have S1 : St 46 m (laA 46 h) := St_beg hv hS
  have S2 : St 46 m (laB 46 h) := St_ob hv S1
  have go : ∀ g, (if s = true then smL 46 7 0 (laB 46 h) else laB 46 h) = g → St 46 m g → qB tFA (d + 63) k_TownText_readLaw (h 0 0) (h 0 1) Q 1 [(3, 3), (1, a), (1, obX 46 (laA 46 h)), (1, laB 46 h 79 1), (0, 0)] [] g := by
    intro g eg gS
    have eC : twH 19 g = laC 46 s h := by unfold laC; rw [eg]
    have CS : St 46 m (laC 46 s h) := by rw [← eC]; exact St_tw hv gS
    have DS : St 46 m (laD 46 s h) := St_fr hv (fr_te (fr_fc 7 0)) (Sc_te hv (Sc_fc hv 7 0) CS.1) CS
    refine TA_TownText_readLaw_1 _ _ _ _ _ _ _ _ (pA_takeWord gS.1 ?_)
    rw [eC]
    refine pA_test0 CS.1 ⟨fun c => ?_, fun c => ?_⟩
    · have : laD 46 s h 3 0 ≠ 0 := c
      rw [if_pos this] at hy; exact hy
    · have : ¬ laD 46 s h 3 0 ≠ 0 := c
      rw [if_neg this] at hy
      unfold adW at hy
      simp only [Int.reduceAdd] at hy
      have sz := DS.2.2.2.2.2
      simp only [Int.reduceAdd] at sz
      show qC tFA (d + 63) k_Laws_add [79, obX 46 (laA 46 h), laB 46 h 79 1, laC 46 s h 79 1] (laD 46 s h) _
      refine qC_intro (TA79_Laws_add_0 _ _ _ _ _ _ _ _ ⟨fun c2 => ?_, fun c2 => ?_⟩)
      · rw [if_neg (by omega)] at hy; exact hy
      · rw [if_pos (by omega)] at hy
        rw [mmD_iff, mmD_iff, mmD_iff, mmD_iff, mAdd_ok (by omega) (by omega)]
        exact ⟨by omega, by omega, by omega, by omega, hy⟩
  refine qC_intro (TA_TownText_readLaw_0 _ _ _ _ _ _ (pA_begin hS (pA_ownerBy S1 ⟨fun c => ?_, fun c => ?_⟩)))
  · have es : ¬ s = true := fun q => by rw [if_pos q] at ha; omega
    exact go _ (by rw [if_neg es]; rfl) S2
  · have es : s = true := by
      by_cases q : s = true
      · exact q
      · rw [if_neg q] at ha; exact absurd ha c
    exact qC_le (d := d + 34) (by omega) (pA_sum0 S2.1 (go _ (by rw [if_pos es]; rfl) (St_fr hv (fr_sm 7 0 _) (Sc_sm hv 7 0 _ S2.1) S2)))
end SSA
theorem nmzB : (∀ j, tFB 6 j = none) ∧ (∀ j, tFB 7 j = none) ∧ (∀ j, tFB 8 j = none) := by
  refine ⟨fun j => ?_, fun j => ?_, fun j => ?_⟩ <;> unfold tFB <;> rw [if_neg (by decide)] <;> rfl
theorem snzB : tSh 6 = (100, 5) ∧ tSh 7 = (100, 10) ∧ tSh 8 = (100, 6) := by decide +kernel
section SSB
variable {d : Nat} {h : mmH} {Q : Int → mmH → Prop} {m : Int}
theorem pB_placeOf {c n x : Int} {cap : Nat} (hsh : tSh c = (100, cap)) (hn : ∀ j, tFB c j = none) (n1 : 0 ≤ n) (n2 : n ≤ cap) (n3 : n ≤ 10) (hy : Q (plcE (h c) x n.toNat 0) h) : qC tFB (d + 1) k_Town_placeOf [x, c, n] h Q := by
  refine qC_intro (TB_Town_placeOf_0 _ _ _ _ _ _ _ _ ?_)
  have key : ∀ (j k : Nat), (k : Int) + j = n → plcE (h c) x n.toNat 0 = plcE (h c) x j (k : Int) → qB tFB d k_Town_placeOf (h 0 0) (h 0 1) Q 1 [(1, x), (3, c), (1, n), (1, (k : Int))] [] h := by
    intro j
    induction j with
    | zero =>
      intro k hk e
      rw [e] at hy
      exact TB_Town_placeOf_1 _ _ _ _ _ _ _ _ _ ⟨fun _ => hy, fun c => absurd (by omega) c⟩
    | succ j ih =>
      intro k hk e
      have e : plcE (h c) x n.toNat 0 = (if h c (k : Int) = x then (k : Int) else plcE (h c) x j ((k : Int) + 1)) := e
      refine TB_Town_placeOf_1 _ _ _ _ _ _ _ _ _ ⟨fun q => absurd q (by omega), fun _ => ?_⟩
      rw [hsh, hn]
      rw [mmG_iff, mmG_iff, mmD_iff]
      refine ⟨rfl, fun q => absurd q (by show ¬ ((cap : Nat) : Int) ≤ (k : Int); omega), fun _ => ⟨rfl, ⟨by omega, by show (k : Int) < ((cap : Nat) : Int); omega⟩, fun c5 => ?_, fun c5 => ?_⟩⟩
      · rw [Option.getD_none] at c5
        rw [if_neg c5] at e
        rw [mAdd_ok (by omega) (by omega), show (k : Int) + 1 = ((k + 1 : Nat) : Int) by omega]
        exact ih (k + 1) (by omega) e
      · rw [Option.getD_none] at c5
        rw [if_pos (Decidable.of_not_not c5)] at e
        rw [e] at hy
        exact hy
  exact key n.toNat 0 (by omega) rfl
theorem pB_ownerNamed {x : Int} (hS : St 5 m h) (hy : Q (plcE (h 6) x (h 5 0).toNat 0) h) : qC tFB (d + 2) k_Town_ownerNamed [5, x] h Q :=
  qC_intro (TB5_Town_ownerNamed_0 _ _ _ _ _ _ (pB_placeOf snzB.1 nmzB.1 hS.2.1.1 hS.2.1.2 (by have := hS.2.1.2; omega) hy))
theorem pB_lotNamed {x : Int} (hS : St 5 m h) (hy : Q (plcE (h 7) x (h 5 1).toNat 0) h) : qC tFB (d + 2) k_Town_lotNamed [5, x] h Q :=
  qC_intro (TB5_Town_lotNamed_0 _ _ _ _ _ _ (pB_placeOf snzB.2.1 nmzB.2.1 hS.2.2.1.1 hS.2.2.1.2 (by have := hS.2.2.1.2; omega) hy))
theorem pB_knows {x : Int} (hS : St 5 m h) (hy : ∀ y, YN y (knV 5 h x = true) → Q y h) : qC tFB (d + 3) k_Town_knows [5, x] h Q := by
  have hk : knV 5 h x = true ↔ (plcE (h 6) x (h 5 0).toNat 0 ≠ -1 ∨ plcE (h 7) x (h 5 1).toNat 0 ≠ -1 ∨ plcE (h 8) x (h 5 3).toNat 0 ≠ -1) := decide_eq_true_iff
  refine qC_intro (TB5_Town_knows_0 _ _ _ _ _ _ (pB_ownerNamed hS ⟨fun c => hy _ (YN.yes (hk.mpr (Or.inl c))), fun c => pB_lotNamed hS ⟨fun c2 => hy _ (YN.yes (hk.mpr (Or.inr (Or.inl c2)))), fun c2 => pB_placeOf snzB.2.2 nmzB.2.2 hS.2.2.2.1.1 hS.2.2.2.1.2 (by have := hS.2.2.2.1.2; omega) ⟨fun c3 => hy _ (YN.no (fun q => ?_)), fun c3 => hy _ (YN.yes (hk.mpr (Or.inr (Or.inr c3))))⟩⟩⟩))
  rcases hk.mp q with q | q | q
  · exact c q
  · exact c2 q
  · exact q c3
theorem pB_newName (hS : St 5 m h) (hy : Q (nmX h) (newN 5 h)) : qC tFB (d + 4) k_TownText_newName [3] h Q :=
  qC_intro (TB_TownText_newName_0 _ _ _ _ _ (pB_name hS.1 (pB_knows (St_nm (by decide) hS) (fun y hyy => pB_refuse (b := knV 5 (nmH h) (nmX h)) ⟨fun q => by rcases hyy with ⟨a, b⟩ | ⟨a, b⟩; omega; exact absurd q b, fun q => hyy.pos q⟩ hy))))
theorem pB_ownerBy (hS : St 5 m h) (hy : Q (obX 5 h) (obH 5 h)) : qC tFB (d + 4) k_TownText_ownerByName [3] h Q := by
  unfold obH at hy
  exact qC_intro (TB_TownText_ownerByName_0 _ _ _ _ _ (pB_name hS.1 (pB_ownerNamed (St_nm (by decide) hS) ⟨fun c => pB_refuse ⟨fun q => absurd (of_decide_eq_true q) c, fun q => absurd rfl q⟩ hy, fun c => pB_refuse ⟨fun _ => by decide, fun _ => decide_eq_true (Decidable.of_not_not c)⟩ hy⟩)))
theorem pB_lotBy (hS : St 5 m h) (hy : Q (lbX 5 h) (lbH 5 h)) : qC tFB (d + 4) k_TownText_lotByName [3] h Q := by
  unfold lbH at hy
  exact qC_intro (TB_TownText_lotByName_0 _ _ _ _ _ (pB_name hS.1 (pB_lotNamed (St_nm (by decide) hS) ⟨fun c => pB_refuse ⟨fun q => absurd (of_decide_eq_true q) c, fun q => absurd rfl q⟩ hy, fun c => pB_refuse ⟨fun _ => by decide, fun _ => decide_eq_true (Decidable.of_not_not c)⟩ hy⟩)))
theorem pB_begin {n k : Int} (hS : St 5 m h) (hy : Q 0 (begH n k h)) : qC tFB (d + 3) k_TownText_beginOneOf [3, n, k] h Q := by
  unfold begH at hy
  refine qC_intro (TB_TownText_beginOneOf_0 _ _ _ _ _ _ _ ⟨fun c => pB_passWord hS.1 ?_, fun c => pB_fail (pB_passWord (Sc_fl (by decide) hS.1) ?_)⟩)
  · rw [if_pos c] at hy; exact hy
  · rw [if_neg c] at hy; exact hy
theorem pB_readOwner (hS : St 5 m h) (hy : Q 0 (ownF 5 h)) : qC tFB (d + 5) k_TownText_readOwner [3] h Q := by
  unfold ownF okE at hy
  have S1 := St_beg (n := h 5 0) (k := 5) (by decide) hS
  have S2 := St_newN (by decide) S1
  refine qC_intro (TB_TownText_readOwner_0 _ _ _ _ _ (pB_begin hS (pB_newName S1 ⟨fun c => ?_, fun c => ?_⟩)))
  · rw [if_pos c] at hy; exact hy
  · rw [if_neg c] at hy
    unfold adO at hy
    simp only [Int.reduceAdd] at hy
    have s := S2.2.1
    refine qC_intro (TB5_Town_addOwner_0 _ _ _ _ _ _ ⟨fun c2 => ?_, fun c2 => mmD_of (by omega) ?_⟩)
    · rw [if_neg (by omega)] at hy; exact hy
    · rw [if_pos (by omega)] at hy
      rw [mAdd_ok (by omega) (by omega)]
      exact hy
theorem pB_addLot {x o e t : Int} (hS : St 5 m h) (hy : Q 0 (adL 5 x o e t h)) : qC tFB (d + 1) k_Town_addLot [5, x, o, e, t] h Q := by
  unfold adL at hy
  simp only [Int.reduceAdd] at hy
  have s := hS.2.2.1
  refine qC_intro (TB5_Town_addLot_0 _ _ _ _ _ _ _ _ _ ⟨fun c2 => ?_, fun c2 => mmD_of (by omega) ?_⟩)
  · rw [if_neg (by omega)] at hy; exact hy
  · rw [if_pos (by omega)] at hy
    have r : ∀ (g : mmH) (k i y : Int), k ≠ 5 → mmS g k i y 5 1 = g 5 1 := fun g k i y q => mmS_cell (Ne.symm q)
    refine TB5_Town_addLot_0_10 _ _ _ _ _ _ _ _ _ ?_
    simp (disch := omega) only [r, mmD_iff, mmG_iff, Bool.and_eq_true, Bool.or_eq_true, Nat.beq_refl, true_and, and_true, Option.getD_none, Option.isNone_none, decide_eq_true_eq, lc_lt0, lc_gt0, lc_le0, lc_ge0, lc_eq0, lc_ne0, ite_true, ite_false, fc_tFA_9, fn_tFA_9, fc_tFB_9, fn_tFB_9, sh_9, wn_9, fc_tFA_50, fn_tFA_50, fc_tFB_50, fn_tFB_50, sh_50, wn_50, fc_tFA_20, fn_tFA_20, fc_tFB_20, fn_tFB_20, sh_20, wn_20, fc_tFA_61, fn_tFA_61, fc_tFB_61, fn_tFB_61, sh_61, wn_61, fc_tFA_27, fn_tFA_27, fc_tFB_27, fn_tFB_27, sh_27, wn_27, fc_tFA_68, fn_tFA_68, fc_tFB_68, fn_tFB_68, sh_68, wn_68, fc_tFA_91, fn_tFA_91, fc_tFB_91, fn_tFB_91, sh_91, wn_91]
    refine ⟨by omega, by omega, TB5_Town_addLot_0_18 _ _ _ _ _ _ _ _ _ ?_⟩
    simp (disch := omega) only [r, mmD_iff, mmG_iff, Bool.and_eq_true, Bool.or_eq_true, Nat.beq_refl, true_and, and_true, Option.getD_none, Option.isNone_none, decide_eq_true_eq, lc_lt0, lc_gt0, lc_le0, lc_ge0, lc_eq0, lc_ne0, ite_true, ite_false, fc_tFA_9, fn_tFA_9, fc_tFB_9, fn_tFB_9, sh_9, wn_9, fc_tFA_50, fn_tFA_50, fc_tFB_50, fn_tFB_50, sh_50, wn_50, fc_tFA_20, fn_tFA_20, fc_tFB_20, fn_tFB_20, sh_20, wn_20, fc_tFA_61, fn_tFA_61, fc_tFB_61, fn_tFB_61, sh_61, wn_61, fc_tFA_27, fn_tFA_27, fc_tFB_27, fn_tFB_27, sh_27, wn_27, fc_tFA_68, fn_tFA_68, fc_tFB_68, fn_tFB_68, sh_68, wn_68, fc_tFA_91, fn_tFA_91, fc_tFB_91, fn_tFB_91, sh_91, wn_91]
    refine ⟨by omega, by omega, TB5_Town_addLot_0_26 _ _ _ _ _ _ _ _ _ ?_⟩
    simp (disch := omega) only [r, mmD_iff, mmG_iff, Bool.and_eq_true, Bool.or_eq_true, Nat.beq_refl, true_and, and_true, Option.getD_none, Option.isNone_none, decide_eq_true_eq, lc_lt0, lc_gt0, lc_le0, lc_ge0, lc_eq0, lc_ne0, ite_true, ite_false, fc_tFA_9, fn_tFA_9, fc_tFB_9, fn_tFB_9, sh_9, wn_9, fc_tFA_50, fn_tFA_50, fc_tFB_50, fn_tFB_50, sh_50, wn_50, fc_tFA_20, fn_tFA_20, fc_tFB_20, fn_tFB_20, sh_20, wn_20, fc_tFA_61, fn_tFA_61, fc_tFB_61, fn_tFB_61, sh_61, wn_61, fc_tFA_27, fn_tFA_27, fc_tFB_27, fn_tFB_27, sh_27, wn_27, fc_tFA_68, fn_tFA_68, fc_tFB_68, fn_tFB_68, sh_68, wn_68, fc_tFA_91, fn_tFA_91, fc_tFB_91, fn_tFB_91, sh_91, wn_91]
    refine ⟨by omega, by omega, TB5_Town_addLot_0_34 _ _ _ _ _ _ _ _ _ ?_⟩
    simp (disch := omega) only [r, mmD_iff, mmG_iff, Bool.and_eq_true, Bool.or_eq_true, Nat.beq_refl, true_and, and_true, Option.getD_none, Option.isNone_none, decide_eq_true_eq, lc_lt0, lc_gt0, lc_le0, lc_ge0, lc_eq0, lc_ne0, ite_true, ite_false, fc_tFA_9, fn_tFA_9, fc_tFB_9, fn_tFB_9, sh_9, wn_9, fc_tFA_50, fn_tFA_50, fc_tFB_50, fn_tFB_50, sh_50, wn_50, fc_tFA_20, fn_tFA_20, fc_tFB_20, fn_tFB_20, sh_20, wn_20, fc_tFA_61, fn_tFA_61, fc_tFB_61, fn_tFB_61, sh_61, wn_61, fc_tFA_27, fn_tFA_27, fc_tFB_27, fn_tFB_27, sh_27, wn_27, fc_tFA_68, fn_tFA_68, fc_tFB_68, fn_tFB_68, sh_68, wn_68, fc_tFA_91, fn_tFA_91, fc_tFB_91, fn_tFB_91, sh_91, wn_91]
    refine ⟨by omega, by omega, TB5_Town_addLot_0_42 _ _ _ _ _ _ _ _ _ ?_⟩
    simp (disch := omega) only [r, mmD_iff, mmG_iff, Bool.and_eq_true, Bool.or_eq_true, Nat.beq_refl, true_and, and_true, Option.getD_none, Option.isNone_none, decide_eq_true_eq, lc_lt0, lc_gt0, lc_le0, lc_ge0, lc_eq0, lc_ne0, ite_true, ite_false, fc_tFA_9, fn_tFA_9, fc_tFB_9, fn_tFB_9, sh_9, wn_9, fc_tFA_50, fn_tFA_50, fc_tFB_50, fn_tFB_50, sh_50, wn_50, fc_tFA_20, fn_tFA_20, fc_tFB_20, fn_tFB_20, sh_20, wn_20, fc_tFA_61, fn_tFA_61, fc_tFB_61, fn_tFB_61, sh_61, wn_61, fc_tFA_27, fn_tFA_27, fc_tFB_27, fn_tFB_27, sh_27, wn_27, fc_tFA_68, fn_tFA_68, fc_tFB_68, fn_tFB_68, sh_68, wn_68, fc_tFA_91, fn_tFA_91, fc_tFB_91, fn_tFB_91, sh_91, wn_91]
    rw [mAdd_ok (by omega) (by omega)]
    exact ⟨by omega, by omega, hy⟩
theorem pB_readLot (hS : St 5 m h) (hy : Q 0 (lotF 5 h)) : qC tFB (d + 5) k_TownText_readLot [3] h Q := by
  unfold lotF okE at hy
  have S1 := St_beg (n := h 5 1) (k := 10) (by decide) hS
  have S2 := St_newN (by decide) S1
  have S3 := St_tw (w := 2) (by decide) S2
  have S4 := St_ob (by decide) S3
  have S5 := St_tw (w := 3) (by decide) S4
  have S6 := St_nu (lo := 0) (hi := 20) (by decide) S5
  have S7 := St_tw (w := 4) (by decide) S6
  have S8 := St_nu (lo := 0) (hi := 30) (by decide) S7
  refine qC_intro (TB_TownText_readLot_0 _ _ _ _ _ (pB_begin hS (pB_newName S1 (pB_takeWord S2.1 (pB_ownerBy S3 (TB_TownText_readLot_0_14 _ _ _ _ _ _ _ (pB_takeWord S4.1 (pB_number S5.1 (pB_takeWord S6.1 (pB_number S7.1 ⟨fun c => ?_, fun c => ?_⟩))))))))))
  · rw [if_pos (show loD 5 h 3 0 ≠ 0 from c)] at hy; exact hy
  · rw [if_neg (show ¬ loD 5 h 3 0 ≠ 0 from c)] at hy
    exact pB_addLot S8 hy
theorem pB_readInn (hS : St 5 m h) (hy : Q 0 (innF 5 h)) : qC tFB (d + 5) k_TownText_readInn [3] h Q := by
  unfold innF okE at hy
  have S1 := St_ps (by decide) hS
  have S2 := St_lb (by decide) S1
  have S3 := St_rf (b := rwB2 5 (lbH 5 (psH h)) (lbX 5 (psH h)) 3) (by decide) S2
  have S4 : St 5 m (inA 5 h) := St_tw (w := 6) (by decide) S3
  have S5 := St_nu (lo := 1) (hi := 9) (by decide) S4
  have rw2 := rwB2_iff (v := 5) (g := lbH 5 (psH h)) (k := lbX 5 (psH h)) (i := 3)
  unfold isLo at rw2
  simp only [Int.reduceAdd] at rw2
  have b2 : ∀ s0, (rwB2 5 (lbH 5 (psH h)) (lbX 5 (psH h)) 3 = true ↔ s0 ≠ 0) → qB tFB (d + 4) k_TownText_readInn (h 0 0) (h 0 1) Q 2 [(3, 3), (1, lbX 5 (psH h)), (0, 0)] [(1, s0), (3, 3)] (lbH 5 (psH h)) := by
    intro s0 hs
    refine TB_TownText_readInn_2 _ _ _ _ _ _ _ (pB_refuse hs (pB_takeWord S3.1 ?_))
    show qC tFB (d + 4) k_TownText_number [3, 1, 9] (inA 5 h) _
    refine pB_number S4.1 ⟨fun c => ?_, fun c => pB5_isLot (fun y hyy => ⟨fun c2 => ?_, fun c2 => ?_⟩)⟩
    · rw [if_pos c] at hy; exact hy
    · rw [if_neg c] at hy
      unfold setL isLo at hy
      rw [if_neg (hyy.neg c2)] at hy
      exact hy
    · rw [if_neg c] at hy
      have hl := hyy.pos c2
      have hl5 : lbX 5 (psH h) < 10 := by have := S5.2.2.1.2; have := hl.2; omega
      unfold setL isLo at hy
      rw [if_pos hl] at hy
      simp only [Int.reduceAdd] at hy
      simp (disch := omega) only [mmD_iff, mmG_iff, Bool.and_eq_true, Bool.or_eq_true, Nat.beq_refl, true_and, and_true, Option.getD_none, Option.isNone_none, decide_eq_true_eq, lc_lt0, lc_gt0, lc_le0, lc_ge0, lc_eq0, lc_ne0, ite_true, ite_false, fc_tFA_9, fn_tFA_9, fc_tFB_9, fn_tFB_9, sh_9, wn_9, fc_tFA_50, fn_tFA_50, fc_tFB_50, fn_tFB_50, sh_50, wn_50, fc_tFA_20, fn_tFA_20, fc_tFB_20, fn_tFB_20, sh_20, wn_20, fc_tFA_61, fn_tFA_61, fc_tFB_61, fn_tFB_61, sh_61, wn_61, fc_tFA_27, fn_tFA_27, fc_tFB_27, fn_tFB_27, sh_27, wn_27, fc_tFA_68, fn_tFA_68, fc_tFB_68, fn_tFB_68, sh_68, wn_68, fc_tFA_91, fn_tFA_91, fc_tFB_91, fn_tFB_91, sh_91, wn_91]
      exact ⟨by omega, by omega, hy⟩
  refine qC_intro (TB_TownText_readInn_0 _ _ _ _ _ (pB_passWord hS.1 (pB_lotBy S1 (pB5_isLot (fun y hyy => ⟨fun c => b2 0 ⟨fun q => absurd (rw2.mp q).1 (hyy.neg c), fun q => absurd rfl q⟩, fun c => ?_⟩)))))
  have hl := hyy.pos c
  have hl5 : lbX 5 (psH h) < 10 := by have := S2.2.2.1.2; have := hl.2; omega
  simp (disch := omega) only [mmD_iff, mmG_iff, Bool.and_eq_true, Bool.or_eq_true, Nat.beq_refl, true_and, and_true, Option.getD_none, Option.isNone_none, decide_eq_true_eq, lc_lt0, lc_gt0, lc_le0, lc_ge0, lc_eq0, lc_ne0, ite_true, ite_false, fc_tFA_9, fn_tFA_9, fc_tFB_9, fn_tFB_9, sh_9, wn_9, fc_tFA_50, fn_tFA_50, fc_tFB_50, fn_tFB_50, sh_50, wn_50, fc_tFA_20, fn_tFA_20, fc_tFB_20, fn_tFB_20, sh_20, wn_20, fc_tFA_61, fn_tFA_61, fc_tFB_61, fn_tFB_61, sh_61, wn_61, fc_tFA_27, fn_tFA_27, fc_tFB_27, fn_tFB_27, sh_27, wn_27, fc_tFA_68, fn_tFA_68, fc_tFB_68, fn_tFB_68, sh_68, wn_68, fc_tFA_91, fn_tFA_91, fc_tFB_91, fn_tFB_91, sh_91, wn_91]
  exact ⟨by omega, by omega, fun c2 => b2 0 ⟨fun q => absurd c2 (rw2.mp q).2, fun q => absurd rfl q⟩, fun c2 => b2 1 ⟨fun _ => by decide, fun _ => rw2.mpr ⟨hl, c2⟩⟩⟩
theorem pB_readStork (hS : St 5 m h) (hy : Q 0 (stoF 5 h)) : qC tFB (d + 5) k_TownText_readStork [3] h Q := by
  unfold stoF okE at hy
  have S1 := St_ps (by decide) hS
  have S2 := St_lb (by decide) S1
  have S3 : St 5 m (stA 5 h) := St_rf (b := rwB2 5 (lbH 5 (psH h)) (lbX 5 (psH h)) 4) (by decide) S2
  have rw2 := rwB2_iff (v := 5) (g := lbH 5 (psH h)) (k := lbX 5 (psH h)) (i := 4)
  unfold isLo at rw2
  simp only [Int.reduceAdd] at rw2
  have b2 : ∀ s0, (rwB2 5 (lbH 5 (psH h)) (lbX 5 (psH h)) 4 = true ↔ s0 ≠ 0) → qB tFB (d + 4) k_TownText_readStork (h 0 0) (h 0 1) Q 2 [(3, 3), (1, lbX 5 (psH h))] [(1, s0), (3, 3)] (lbH 5 (psH h)) := by
    intro s0 hs
    refine TB_TownText_readStork_2 _ _ _ _ _ _ _ (pB_refuse hs ?_)
    rw [show rfH (rwB2 5 (lbH 5 (psH h)) (lbX 5 (psH h)) 4) (lbH 5 (psH h)) = stA 5 h from rfl]
    refine ⟨fun c => ?_, fun c => pB5_isLot (fun y hyy => ⟨fun c2 => ?_, fun c2 => ?_⟩)⟩
    · rw [if_pos c] at hy; exact hy
    · rw [if_neg c] at hy
      unfold setL isLo at hy
      rw [if_neg (hyy.neg c2)] at hy
      exact hy
    · rw [if_neg c] at hy
      have hl := hyy.pos c2
      have hl5 : lbX 5 (psH h) < 10 := by have := S3.2.2.1.2; have := hl.2; omega
      unfold setL isLo at hy
      rw [if_pos hl] at hy
      simp only [Int.reduceAdd] at hy
      simp (disch := omega) only [mmD_iff, mmG_iff, Bool.and_eq_true, Bool.or_eq_true, Nat.beq_refl, true_and, and_true, Option.getD_none, Option.isNone_none, decide_eq_true_eq, lc_lt0, lc_gt0, lc_le0, lc_ge0, lc_eq0, lc_ne0, ite_true, ite_false, fc_tFA_9, fn_tFA_9, fc_tFB_9, fn_tFB_9, sh_9, wn_9, fc_tFA_50, fn_tFA_50, fc_tFB_50, fn_tFB_50, sh_50, wn_50, fc_tFA_20, fn_tFA_20, fc_tFB_20, fn_tFB_20, sh_20, wn_20, fc_tFA_61, fn_tFA_61, fc_tFB_61, fn_tFB_61, sh_61, wn_61, fc_tFA_27, fn_tFA_27, fc_tFB_27, fn_tFB_27, sh_27, wn_27, fc_tFA_68, fn_tFA_68, fc_tFB_68, fn_tFB_68, sh_68, wn_68, fc_tFA_91, fn_tFA_91, fc_tFB_91, fn_tFB_91, sh_91, wn_91]
      exact ⟨by omega, by omega, hy⟩
  refine qC_intro (TB_TownText_readStork_0 _ _ _ _ _ (pB_passWord hS.1 (pB_lotBy S1 (pB5_isLot (fun y hyy => ⟨fun c => b2 0 ⟨fun q => absurd (rw2.mp q).1 (hyy.neg c), fun q => absurd rfl q⟩, fun c => ?_⟩)))))
  have hl := hyy.pos c
  have hl5 : lbX 5 (psH h) < 10 := by have := S2.2.2.1.2; have := hl.2; omega
  simp (disch := omega) only [mmD_iff, mmG_iff, Bool.and_eq_true, Bool.or_eq_true, Nat.beq_refl, true_and, and_true, Option.getD_none, Option.isNone_none, decide_eq_true_eq, lc_lt0, lc_gt0, lc_le0, lc_ge0, lc_eq0, lc_ne0, ite_true, ite_false, fc_tFA_9, fn_tFA_9, fc_tFB_9, fn_tFB_9, sh_9, wn_9, fc_tFA_50, fn_tFA_50, fc_tFB_50, fn_tFB_50, sh_50, wn_50, fc_tFA_20, fn_tFA_20, fc_tFB_20, fn_tFB_20, sh_20, wn_20, fc_tFA_61, fn_tFA_61, fc_tFB_61, fn_tFB_61, sh_61, wn_61, fc_tFA_27, fn_tFA_27, fc_tFB_27, fn_tFB_27, sh_27, wn_27, fc_tFA_68, fn_tFA_68, fc_tFB_68, fn_tFB_68, sh_68, wn_68, fc_tFA_91, fn_tFA_91, fc_tFB_91, fn_tFB_91, sh_91, wn_91]
  exact ⟨by omega, by omega, fun c2 => b2 0 ⟨fun q => absurd c2 (rw2.mp q).2, fun q => absurd rfl q⟩, fun c2 => b2 1 ⟨fun _ => by decide, fun _ => rw2.mpr ⟨hl, c2⟩⟩⟩
theorem pB_readGap (hm : m ≤ 100) (hS : St 5 m h) (hy : Q 0 (gapF 5 h)) : qC tFB (d + 5) k_TownText_readGap [3] h Q := by
  unfold gapF okE at hy
  have S1 : St 5 m (gaA 5 h) := St_beg (n := h 5 2) (k := 20) (by decide) hS
  have S2 : St 5 m (gaB 5 h) := St_lb (by decide) S1
  have S3 : St 5 m (gaC 5 h) := St_lb (by decide) S2
  have S4 := St_rf (b := gaW 5 (gaC 5 h) (lbX 5 (gaA 5 h)) (lbX 5 (gaB 5 h))) (by decide) S3
  have S5 : St 5 m (gaD 5 h) := St_tw (w := 9) (by decide) S4
  have S6 := St_nu (lo := 0) (hi := 9) (by decide) S5
  have gw := gaW_iff (v := 5) (g := gaC 5 h) (a := lbX 5 (gaA 5 h)) (b := lbX 5 (gaB 5 h))
  unfold isLo at gw
  simp only [Int.reduceAdd] at gw
  have b3 : ∀ s0, (gaW 5 (gaC 5 h) (lbX 5 (gaA 5 h)) (lbX 5 (gaB 5 h)) = true ↔ s0 ≠ 0) → qB tFB (d + 4) k_TownText_readGap (h 0 0) (h 0 1) Q 3 [(3, 3), (1, lbX 5 (gaA 5 h)), (1, lbX 5 (gaB 5 h)), (0, 0)] [(1, s0), (3, 3)] (gaC 5 h) := by
    intro s0 hs
    refine TB_TownText_readGap_3 _ _ _ _ _ _ _ _ (pB_refuse hs (pB_takeWord S4.1 ?_))
    show qC tFB (d + 4) k_TownText_number [3, 0, 9] (gaD 5 h) _
    refine pB_number S5.1 ⟨fun c => ?_, fun c => ?_⟩
    · rw [if_pos c] at hy; exact hy
    · rw [if_neg c] at hy
      unfold adG isLo at hy
      have s := S6.2
      refine qC_intro (TB5_Town_addGap_0 _ _ _ _ _ _ _ _ (pB5_isLot (fun y hyy => ⟨fun c2 => ?_, fun c2 => pB5_isLot (fun z hz => ⟨fun c3 => ?_, fun c3 => ?_⟩)⟩)))
      · rw [if_neg (fun q => hyy.neg c2 q.1)] at hy; exact hy
      · rw [if_neg (fun q => hz.neg c3 q.2)] at hy; exact hy
      · have h1 := hyy.pos c2
        have h2 := hz.pos c3
        rw [if_pos ⟨h1, h2⟩] at hy
        simp only [Int.reduceAdd] at hy
        simp (disch := omega) only [mmD_iff, mmG_iff, Bool.and_eq_true, Bool.or_eq_true, Nat.beq_refl, true_and, and_true, Option.getD_none, Option.isNone_none, decide_eq_true_eq, lc_lt0, lc_gt0, lc_le0, lc_ge0, lc_eq0, lc_ne0, ite_true, ite_false, fc_tFA_9, fn_tFA_9, fc_tFB_9, fn_tFB_9, sh_9, wn_9, fc_tFA_50, fn_tFA_50, fc_tFB_50, fn_tFB_50, sh_50, wn_50, fc_tFA_20, fn_tFA_20, fc_tFB_20, fn_tFB_20, sh_20, wn_20, fc_tFA_61, fn_tFA_61, fc_tFB_61, fn_tFB_61, sh_61, wn_61, fc_tFA_27, fn_tFA_27, fc_tFB_27, fn_tFB_27, sh_27, wn_27, fc_tFA_68, fn_tFA_68, fc_tFB_68, fn_tFB_68, sh_68, wn_68, fc_tFA_91, fn_tFA_91, fc_tFB_91, fn_tFB_91, sh_91, wn_91]
        rw [mmS_cell (by omega), mmS_cell (by omega), mAdd_ok (by omega) (by omega)]
        exact ⟨by omega, by omega, by omega, by omega, hy⟩
  refine qC_intro (TB_TownText_readGap_0 _ _ _ _ _ (pB_begin hS ?_))
  show qC tFB (d + 4) k_TownText_lotByName [3] (gaA 5 h) _
  refine pB_lotBy S1 ?_
  show qC tFB (d + 4) k_TownText_lotByName [3] (gaB 5 h) _
  refine pB_lotBy S2 ?_
  rw [show lbH 5 (gaB 5 h) = gaC 5 h from rfl]
  refine ⟨fun c => b3 1 ⟨fun _ => by decide, fun _ => gw.mpr (Or.inl c)⟩, fun c => pB5_wideOf S3.2.2.1.2 (fun w hw => ⟨fun c2 => b3 0 ⟨fun q => ?_, fun q => absurd rfl q⟩, fun c2 => b3 1 ⟨fun _ => by decide, fun _ => gw.mpr (Or.inr ?_)⟩⟩)⟩
  · rcases gw.mp q with q | ⟨q1, q2, q3⟩
    · exact absurd q c
    · rcases hw with ⟨w1, w2, w3⟩ | ⟨w1, w2⟩
      · exact absurd (by rw [← w3]; exact c2) q3
      · exact absurd ⟨q1, q2⟩ w2
  · rcases hw with ⟨w1, w2, w3⟩ | ⟨w1, w2⟩
    · exact ⟨w1, w2, by rw [← w3]; exact c2⟩
    · exact absurd w1 c2
theorem pB_readPerson (hS : St 5 m h) (hy : Q 0 (perF 5 h)) : qC tFB (d + 5) k_TownText_readPerson [3] h Q := by
  have hv : (5 : Int) = 5 ∨ (5 : Int) = 46 := by decide
  unfold perF okE at hy
  have S1 := St_beg (n := h 5 3) (k := 6) hv hS
  have S2 : St 5 m (peA 5 h) := St_newN hv S1
  have hr : 0 ≤ peR 5 h ∧ peR 5 h < 6 := by
    have := S2.2.2.2.1
    unfold peR mMin
    split <;> omega
  have SW : ∀ w lo hi i g, St 5 m g → St 5 m (peW 5 (peR 5 h) w lo hi i g) := fun w lo hi i g q => St_out hv (by omega) (by omega) (by omega) (St_nu hv (St_tw hv q))
  have SL : ∀ w i g, St 5 m g → St 5 m (peL 5 (peR 5 h) w i g) := fun w i g q => St_out hv (by omega) (by omega) (by omega) (St_lb hv (St_tw hv q))
  have P1 := SW 11 1 99 0 _ S2
  have P2 := SW 12 0 9 1 _ P1
  have P3 := SW 13 0 20 2 _ P2
  have P4 : St 5 m (peB 5 h) := SW 14 0 9 3 _ P3
  have P5 := SL 15 4 _ P4
  have P6 : St 5 m (peC 5 h) := SL 16 5 _ P5
  have P7 : St 5 m (peD 5 h) := St_rf hv P6
  refine qC_intro (TB_TownText_readPerson_0 _ _ _ _ _ (pB_begin hS (pB_newName S1 (qC_intro (TB5_Town_nextPersonRow_0 _ _ _ _ _ ?_)))))
  have eR : mMin (newN 5 (begH (h 5 3) 6 h) 5 3) 5 = peR 5 h := rfl
  rw [eR]
  simp (disch := omega) only [mmD_iff, mmG_iff, Bool.and_eq_true, Bool.or_eq_true, Nat.beq_refl, true_and, and_true, Option.getD_none, Option.isNone_none, decide_eq_true_eq, lc_lt0, lc_gt0, lc_le0, lc_ge0, lc_eq0, lc_ne0, ite_true, ite_false, fc_tFA_9, fn_tFA_9, fc_tFB_9, fn_tFB_9, sh_9, wn_9, fc_tFA_50, fn_tFA_50, fc_tFB_50, fn_tFB_50, sh_50, wn_50, fc_tFA_20, fn_tFA_20, fc_tFB_20, fn_tFB_20, sh_20, wn_20, fc_tFA_61, fn_tFA_61, fc_tFB_61, fn_tFB_61, sh_61, wn_61, fc_tFA_27, fn_tFA_27, fc_tFB_27, fn_tFB_27, sh_27, wn_27, fc_tFA_68, fn_tFA_68, fc_tFB_68, fn_tFB_68, sh_68, wn_68, fc_tFA_91, fn_tFA_91, fc_tFB_91, fn_tFB_91, sh_91, wn_91]
  refine ⟨by omega, pB_takeWord S2.1 (TB_TownText_readPerson_0_16 _ _ _ _ _ _ _ (pB_number (St_tw hv S2).1 ?_))⟩
  simp (disch := omega) only [mmD_iff, mmG_iff, Bool.and_eq_true, Bool.or_eq_true, Nat.beq_refl, true_and, and_true, Option.getD_none, Option.isNone_none, decide_eq_true_eq, lc_lt0, lc_gt0, lc_le0, lc_ge0, lc_eq0, lc_ne0, ite_true, ite_false, fc_tFA_9, fn_tFA_9, fc_tFB_9, fn_tFB_9, sh_9, wn_9, fc_tFA_50, fn_tFA_50, fc_tFB_50, fn_tFB_50, sh_50, wn_50, fc_tFA_20, fn_tFA_20, fc_tFB_20, fn_tFB_20, sh_20, wn_20, fc_tFA_61, fn_tFA_61, fc_tFB_61, fn_tFB_61, sh_61, wn_61, fc_tFA_27, fn_tFA_27, fc_tFB_27, fn_tFB_27, sh_27, wn_27, fc_tFA_68, fn_tFA_68, fc_tFB_68, fn_tFB_68, sh_68, wn_68, fc_tFA_91, fn_tFA_91, fc_tFB_91, fn_tFB_91, sh_91, wn_91]
  refine ⟨by omega, pB_takeWord P1.1 (pB_number (St_tw hv P1).1 ⟨by omega, TB_TownText_readPerson_0_33 _ _ _ _ _ _ _ (pB_takeWord P2.1 (pB_number (St_tw hv P2).1 ?_))⟩)⟩
  simp (disch := omega) only [mmD_iff, mmG_iff, Bool.and_eq_true, Bool.or_eq_true, Nat.beq_refl, true_and, and_true, Option.getD_none, Option.isNone_none, decide_eq_true_eq, lc_lt0, lc_gt0, lc_le0, lc_ge0, lc_eq0, lc_ne0, ite_true, ite_false, fc_tFA_9, fn_tFA_9, fc_tFB_9, fn_tFB_9, sh_9, wn_9, fc_tFA_50, fn_tFA_50, fc_tFB_50, fn_tFB_50, sh_50, wn_50, fc_tFA_20, fn_tFA_20, fc_tFB_20, fn_tFB_20, sh_20, wn_20, fc_tFA_61, fn_tFA_61, fc_tFB_61, fn_tFB_61, sh_61, wn_61, fc_tFA_27, fn_tFA_27, fc_tFB_27, fn_tFB_27, sh_27, wn_27, fc_tFA_68, fn_tFA_68, fc_tFB_68, fn_tFB_68, sh_68, wn_68, fc_tFA_91, fn_tFA_91, fc_tFB_91, fn_tFB_91, sh_91, wn_91]
  refine ⟨by omega, pB_takeWord P3.1 (pB_number (St_tw hv P3).1 (TB_TownText_readPerson_0_52 _ _ _ _ _ _ _ _ _ _ ?_))⟩
  simp (disch := omega) only [mmD_iff, mmG_iff, Bool.and_eq_true, Bool.or_eq_true, Nat.beq_refl, true_and, and_true, Option.getD_none, Option.isNone_none, decide_eq_true_eq, lc_lt0, lc_gt0, lc_le0, lc_ge0, lc_eq0, lc_ne0, ite_true, ite_false, fc_tFA_9, fn_tFA_9, fc_tFB_9, fn_tFB_9, sh_9, wn_9, fc_tFA_50, fn_tFA_50, fc_tFB_50, fn_tFB_50, sh_50, wn_50, fc_tFA_20, fn_tFA_20, fc_tFB_20, fn_tFB_20, sh_20, wn_20, fc_tFA_61, fn_tFA_61, fc_tFB_61, fn_tFB_61, sh_61, wn_61, fc_tFA_27, fn_tFA_27, fc_tFB_27, fn_tFB_27, sh_27, wn_27, fc_tFA_68, fn_tFA_68, fc_tFB_68, fn_tFB_68, sh_68, wn_68, fc_tFA_91, fn_tFA_91, fc_tFB_91, fn_tFB_91, sh_91, wn_91]
  refine ⟨by omega, pB_takeWord P4.1 (pB_lotBy (St_tw hv P4) ⟨by omega, pB_takeWord P5.1 (TB_TownText_readPerson_0_64 _ _ _ _ _ _ _ (pB_lotBy (St_tw hv P5) ?_))⟩)⟩
  simp (disch := omega) only [mmD_iff, mmG_iff, Bool.and_eq_true, Bool.or_eq_true, Nat.beq_refl, true_and, and_true, Option.getD_none, Option.isNone_none, decide_eq_true_eq, lc_lt0, lc_gt0, lc_le0, lc_ge0, lc_eq0, lc_ne0, ite_true, ite_false, fc_tFA_9, fn_tFA_9, fc_tFB_9, fn_tFB_9, sh_9, wn_9, fc_tFA_50, fn_tFA_50, fc_tFB_50, fn_tFB_50, sh_50, wn_50, fc_tFA_20, fn_tFA_20, fc_tFB_20, fn_tFB_20, sh_20, wn_20, fc_tFA_61, fn_tFA_61, fc_tFB_61, fn_tFB_61, sh_61, wn_61, fc_tFA_27, fn_tFA_27, fc_tFB_27, fn_tFB_27, sh_27, wn_27, fc_tFA_68, fn_tFA_68, fc_tFB_68, fn_tFB_68, sh_68, wn_68, fc_tFA_91, fn_tFA_91, fc_tFB_91, fn_tFB_91, sh_91, wn_91]
  have add : peD 5 h 3 0 = 0 → qC tFB (d + 4) k_Town_addPerson [5, nmX (begH (h 5 3) 6 h)] (peD 5 h) (fun _ h4 => Q 0 h4) := by
    intro c
    rw [if_neg (fun q => q c)] at hy
    unfold adP at hy
    simp only [Int.reduceAdd] at hy
    have s := P7.2.2.2.1
    refine qC_intro (TB5_Town_addPerson_0 _ _ _ _ _ _ ⟨fun c2 => ?_, fun c2 => mmD_of (by omega) ?_⟩)
    · rw [if_neg (by omega)] at hy; exact hy
    · rw [if_pos (by omega)] at hy
      rw [mAdd_ok (by omega) (by omega)]
      exact hy
  have fin : ∀ s0, (decide (peC 5 h (5 + 16 + peR 5 h) 4 = peC 5 h (5 + 16 + peR 5 h) 5) = true ↔ s0 ≠ 0) → qC tFB (d + 4) k_TownText_refuseNameIf [3, s0] (peC 5 h) (fun _ h3 => ((h3 3 0) ≠ 0 → Q 0 h3) ∧ (¬ ((h3 3 0) ≠ 0) → qC tFB (d + 4) k_Town_addPerson [5, nmX (begH (h 5 3) 6 h)] h3 (fun _ h4 => Q 0 h4))) := by
    intro s0 hs
    refine pB_refuse hs ⟨fun c => ?_, fun c => add (Decidable.of_not_not c)⟩
    rw [if_pos (show peD 5 h 3 0 ≠ 0 from c)] at hy
    exact hy
  simp only [Int.reduceAdd] at fin
  refine ⟨by omega, by omega, by omega, fun c => fin 0 ⟨fun q => absurd (of_decide_eq_true q) c, fun q => absurd rfl q⟩, fun c => fin 1 ⟨fun _ => by decide, fun _ => decide_eq_true (Decidable.of_not_not c)⟩⟩
theorem pB_readLaw {s : Bool} {a : Int} (ha : a = if s = true then 1 else 0) (hS : St 5 m h) (hy : Q 0 (lawF 5 s h)) : qC tFB (d + 64) k_TownText_readLaw [3, a] h Q := by
  have hv : (5 : Int) = 5 ∨ (5 : Int) = 46 := by decide
  unfold lawF okE at hy
  have S1 : St 5 m (laA 5 h) := St_beg hv hS
  have S2 : St 5 m (laB 5 h) := St_ob hv S1
  have go : ∀ g, (if s = true then smL 5 7 0 (laB 5 h) else laB 5 h) = g → St 5 m g → qB tFB (d + 63) k_TownText_readLaw (h 0 0) (h 0 1) Q 1 [(3, 3), (1, a), (1, obX 5 (laA 5 h)), (1, laB 5 h 38 1), (0, 0)] [] g := by
    intro g eg gS
    have eC : twH 19 g = laC 5 s h := by unfold laC; rw [eg]
    have CS : St 5 m (laC 5 s h) := by rw [← eC]; exact St_tw hv gS
    have DS : St 5 m (laD 5 s h) := St_fr hv (fr_te (fr_fc 7 0)) (Sc_te hv (Sc_fc hv 7 0) CS.1) CS
    refine TB_TownText_readLaw_1 _ _ _ _ _ _ _ _ (pB_takeWord gS.1 ?_)
    rw [eC]
    refine pB_test0 CS.1 ⟨fun c => ?_, fun c => ?_⟩
    · have : laD 5 s h 3 0 ≠ 0 := c
      rw [if_pos this] at hy; exact hy
    · have : ¬ laD 5 s h 3 0 ≠ 0 := c
      rw [if_neg this] at hy
      unfold adW at hy
      simp only [Int.reduceAdd] at hy
      have sz := DS.2.2.2.2.2
      simp only [Int.reduceAdd] at sz
      show qC tFB (d + 63) k_Laws_add [38, obX 5 (laA 5 h), laB 5 h 38 1, laC 5 s h 38 1] (laD 5 s h) _
      refine qC_intro (TB38_Laws_add_0 _ _ _ _ _ _ _ _ ⟨fun c2 => ?_, fun c2 => ?_⟩)
      · rw [if_neg (by omega)] at hy; exact hy
      · rw [if_pos (by omega)] at hy
        rw [mmD_iff, mmD_iff, mmD_iff, mmD_iff, mAdd_ok (by omega) (by omega)]
        exact ⟨by omega, by omega, by omega, by omega, hy⟩
  refine qC_intro (TB_TownText_readLaw_0 _ _ _ _ _ _ (pB_begin hS (pB_ownerBy S1 ⟨fun c => ?_, fun c => ?_⟩)))
  · have es : ¬ s = true := fun q => by rw [if_pos q] at ha; omega
    exact go _ (by rw [if_neg es]; rfl) S2
  · have es : s = true := by
      by_cases q : s = true
      · exact q
      · rw [if_neg q] at ha; exact absurd ha c
    exact qC_le (d := d + 34) (by omega) (pB_sum0 S2.1 (go _ (by rw [if_pos es]; rfl) (St_fr hv (fr_sm 7 0 _) (Sc_sm hv 7 0 _ S2.1) S2)))
end SSB
