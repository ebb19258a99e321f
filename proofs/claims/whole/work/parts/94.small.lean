/-! ===== mm: seed, end, snow, patch, undo ===== -/
def seedP (g : mmH) (a x : Int) (g' : mmH) : Prop := (0 ≤ a ∧ x = 1 ∧ g' = mmS g 1 8 a) ∨ (¬ 0 ≤ a ∧ x = 0 ∧ g' = g)
def endP (g : mmH) (a x : Int) (g' : mmH) : Prop := ((0 ≤ a ∧ a ≤ g 1 1) ∧ x = 1 ∧ g' = mmS g 1 1 a) ∨ (¬ (0 ≤ a ∧ a ≤ g 1 1) ∧ x = 0 ∧ g' = g)
def snowP (g : mmH) (a x : Int) (g' : mmH) : Prop := ((0 ≤ a ∧ a ≤ 9) ∧ x = g 86 1 ∧ ∃ g1, kept g g1 ∧ g' = mmS g1 86 1 a) ∨ (¬ (0 ≤ a ∧ a ≤ 9) ∧ x = -1 ∧ g' = g)
def patO (u : Int) (g : mmH) (a b : Int) : Prop := (0 ≤ a ∧ a < g u 1) ∧ (0 ≤ b ∧ b < g u 1) ∧ a ≠ b ∧ g (u + 5 + a) 4 ≠ 1 ∧ 1 ≤ g 87 a ∧ g 87 b < 30
def patchP (u : Int) (g : mmH) (a b x : Int) (g' : mmH) : Prop := (patO u g a b ∧ x = 1 ∧ ∃ g1, kept g g1 ∧ g' = mmS (mmS g1 87 a (g 87 a - 1)) 87 b (g 87 b + 1)) ∨ (¬ patO u g a b ∧ x = 0 ∧ g' = g)
def undoP (g : mmH) (x : Int) (g' : mmH) : Prop := (1 ≤ g 1 7 ∧ x = 1 ∧ cpyd 86 (102 + 9 * ((g 1 6 + 19) % 20)) (mmS (mmS g 1 7 (g 1 7 - 1)) 1 6 ((g 1 6 + 19) % 20)) g') ∨ (¬ 1 ≤ g 1 7 ∧ x = 0 ∧ g' = g)
section SM
variable {u : Int} {g g' h h' : mmH}
theorem Cy_io (hu : u = 5 ∨ u = 46) (hF : Fr (fun k i => (k = 1 ∧ (i = 1 ∨ i = 8 ∨ i = 11)) ∨ k = 2 ∨ k = 101 ∨ k = 3) g g') (hG : Fr (fun k i => (k = 282 ∧ (i = 1 ∨ i = 69 ∨ i = 71 ∨ i = 7 ∨ i = 8)) ∨ k = 283 ∨ k = 335) h h') (tp : cTape g' h') (sd : cSeed g' h') (sh : cShot g' h') (fa : cFault g' h') (hC : Cy u g h) : Cy u g' h' := by
  obtain ⟨⟨cT, ⟨p1, p2, p3⟩, -, -, -, -, cO⟩, cN⟩ := hC
  have f : ∀ k i, ¬ ((k = 1 ∧ (i = 1 ∨ i = 8 ∨ i = 11)) ∨ k = 2 ∨ k = 101 ∨ k = 3) → g' k i = g k i := hF
  have fk : ∀ k, k ≠ 1 → k ≠ 2 → k ≠ 101 → k ≠ 3 → g' k = g k := fun k q q1 q2 q3 => funext fun i => f k i (by omega)
  have m : ∀ k i, ¬ ((k = 282 ∧ (i = 1 ∨ i = 69 ∨ i = 71 ∨ i = 7 ∨ i = 8)) ∨ k = 283 ∨ k = 335) → h' k i = h k i := hG
  have mk : ∀ k, k ≠ 282 → k ≠ 283 → k ≠ 335 → h' k = h k := fun k q q1 q2 => funext fun i => m k i (by omega)
  have e0 := f u 0 (by omega)
  have e1 := f u 1 (by omega)
  have e3 := f u 3 (by omega)
  refine ⟨⟨Tn_frT (fun k i k1 k2 k3 => f k i (by omega)) (Tn_frM (fun k i q => m k i (by unfold TnM at q; omega)) cT), ?_, tp, sd, sh, fa, ?_⟩, Nw_eq e0 e1 e3 (mk 329 (by omega) (by omega) (by omega)) (fun k k1 k2 => fk k (by omega) (by omega) (by omega) (by omega)) cN⟩
  · unfold Pst
    rw [f 1 7 (by omega), f 1 6 (by omega), m 282 67 (by omega), m 282 68 (by omega)]
    exact ⟨p1, p2, fun i i1 i2 => Nw_eq e0 e1 e3 (mk 334 (by omega) (by omega) (by omega)) (fun k k1 k2 => fk k (by omega) (by omega) (by omega) (by omega)) (p3 i i1 i2)⟩
  · unfold cOwn
    rw [fk 45 (by omega) (by omega) (by omega) (by omega)]
    exact cO
/-- after a change of what is now -/
theorem Cy_now (hu : u = 5 ∨ u = 46) (hF : Fr SnC g g') (hG : Fr SnM h h') (hN : Nw 86 329 0 u g' h') (hC : Cy u g h) : Cy u g' h' := ⟨Cx_fr hu hF hG hC.1, hN⟩
theorem Cy.past (hC : Cy u g h) : (h 282 67 = g 1 7 ∧ 0 ≤ g 1 7 ∧ g 1 7 ≤ 20) ∧ (h 282 68 = g 1 6 ∧ 0 ≤ g 1 6 ∧ g 1 6 < 20) := ⟨hC.1.2.1.1, hC.1.2.1.2.1⟩
end SM
section SAA
variable {d : Nat} {h m0 : mmH} {Q : Int → mmH → Prop}
theorem aA_seed {a : Int} (hy : ∀ x h', seedP h a x h' → Q x h') : qC tFA (d + 1) k_c_seed [1, a] h Q :=
  qC_intro (TA_c_seed_0 _ _ _ _ _ _ ⟨fun c => hy _ _ (Or.inl ⟨c, rfl, rfl⟩), fun c => hy _ _ (Or.inr ⟨c, rfl, rfl⟩)⟩)
theorem aA_end {a : Int} (hy : ∀ x h', endP h a x h' → Q x h') : qC tFA (d + 1) k_c_end [1, a] h Q :=
  qC_intro (TA_c_end_0 _ _ _ _ _ _ ⟨fun c => hy _ _ (Or.inr ⟨by omega, rfl, rfl⟩), fun c => ⟨fun c2 => hy _ _ (Or.inl ⟨by omega, rfl, rfl⟩), fun c2 => hy _ _ (Or.inr ⟨by omega, rfl, rfl⟩)⟩⟩)
theorem aA_snow {a : Int} (hC : Cy 5 h m0) (hy : ∀ x h', snowP h a x h' → Q x h') : qC tFA (d + 3) k_c_snow [1, a] h Q := by
  obtain ⟨⟨-, p7⟩, ⟨-, p6⟩⟩ := hC.past
  refine qC_intro (TA_c_snow_0 _ _ _ _ _ _ ⟨fun c => hy _ _ (Or.inr ⟨by omega, rfl, rfl⟩), fun c => ⟨fun c2 => pA_keepForUndo p6 p7 (fun h1 hk => hy _ _ (Or.inl ⟨by omega, ?_, h1, hk, rfl⟩)), fun c2 => hy _ _ (Or.inr ⟨by omega, rfl, rfl⟩)⟩⟩)
  exact kept_fr p6 hk 86 1 (by omega)
theorem aA_patch {a b : Int} (hC : Cy 5 h m0) (hy : ∀ x h', patchP 5 h a b x h' → Q x h') : qC tFA (d + 3) k_c_patch [1, a, b] h Q := by
  obtain ⟨⟨-, p7⟩, ⟨-, p6⟩⟩ := hC.past
  have n1 := hC.1.1.1.2.1.2.1
  refine qC_intro (TA_c_patch_0 _ _ _ _ _ _ _ (pA5_isLot (fun x hx => ⟨fun c => hy _ _ (Or.inr ⟨fun q => hx.neg c q.1, rfl, rfl⟩), fun c => pA5_isLot (fun y hyy => ⟨fun c2 => hy _ _ (Or.inr ⟨fun q => hyy.neg c2 q.2.1, rfl, rfl⟩), fun c2 => ⟨fun c3 => ?_, fun c3 => hy _ _ (Or.inr ⟨fun q => c3 q.2.2.1, rfl, rfl⟩)⟩⟩)⟩)))
  have ha := hx.pos c
  have hb := hyy.pos c2
  have ta := hC.2.2.2.2.1 a ha.1 ha.2
  have tb' := hC.2.2.2.2.1 b hb.1 hb.2
  simp only [Int.reduceAdd] at ta tb'
  simp (disch := omega) only [mmD_iff, mmG_iff, Bool.and_eq_true, Bool.or_eq_true, Nat.beq_refl, true_and, and_true, Option.getD_none, Option.isNone_none, decide_eq_true_eq, lc_lt0, lc_gt0, lc_le0, lc_ge0, lc_eq0, lc_ne0, ite_true, ite_false, fc_tFA_9, fn_tFA_9, fc_tFB_9, fn_tFB_9, sh_9, wn_9, fc_tFA_50, fn_tFA_50, fc_tFB_50, fn_tFB_50, sh_50, wn_50, fc_tFA_20, fn_tFA_20, fc_tFB_20, fn_tFB_20, sh_20, wn_20, fc_tFA_61, fn_tFA_61, fc_tFB_61, fn_tFB_61, sh_61, wn_61, fc_tFA_27, fn_tFA_27, fc_tFB_27, fn_tFB_27, sh_27, wn_27, fc_tFA_68, fn_tFA_68, fc_tFB_68, fn_tFB_68, sh_68, wn_68, fc_tFA_91, fn_tFA_91, fc_tFB_91, fn_tFB_91, sh_91, wn_91]
  refine ⟨by omega, by omega, fun c4 => hy _ _ (Or.inr ⟨fun q => q.2.2.2.1 c4, rfl, rfl⟩), fun c4 => ⟨by omega, fun c5 => hy _ _ (Or.inr ⟨fun q => by have := q.2.2.2.2.1; omega, rfl, rfl⟩), fun c5 => ⟨by omega, fun c6 => pA_keepForUndo p6 p7 (fun h1 hk => ?_), fun c6 => hy _ _ (Or.inr ⟨fun q => c6 q.2.2.2.2.2, rfl, rfl⟩)⟩⟩⟩
  have ea : h1 87 a = h 87 a := kept_fr p6 hk 87 a (by omega)
  have eb : h1 87 b = h 87 b := kept_fr p6 hk 87 b (by omega)
  have eb2 : mmS h1 87 a (h 87 a - 1) 87 b = h 87 b := by rw [mmS_slot, if_neg (by omega)]; exact eb
  rw [ea, mSub_ok (by omega) (by omega), eb2, mAdd_ok (by omega) (by omega)]
  exact ⟨by omega, by omega, by omega, by omega, hy _ _ (Or.inl ⟨⟨ha, hb, c3, c4, by omega, c6⟩, rfl, h1, hk, rfl⟩)⟩
theorem aA_undo (hC : Cy 5 h m0) (hy : ∀ x h', undoP h x h' → Q x h') : qC tFA (d + 2) k_c_undo [1] h Q := by
  obtain ⟨⟨-, p7⟩, ⟨-, p6⟩⟩ := hC.past
  have hr : rfI (102 + 9 * ((h 1 6 + 19) % 20)) := Or.inr ⟨(h 1 6 + 19) % 20, by omega, rfl⟩
  refine qC_intro (TA_c_undo_0 _ _ _ _ _ ⟨fun c => ?_, fun c => hy _ _ (Or.inr ⟨c, rfl, rfl⟩)⟩)
  rw [mAdd_ok (by omega) (by omega), mSub_ok (by omega) (by omega), mSub_ok (a := h 1 7) (by omega) (by omega), mRem_nn (by omega) (by omega) (by decide) (by decide), show h 1 6 + 20 - 1 = h 1 6 + 19 by omega, f95A (by omega) (by omega)]
  exact mmD_of (by omega) (pA_copyFrom (Or.inl rfl) hr (by omega) (fun h1 hc => hy _ _ (Or.inl ⟨c, rfl, hc⟩)))
end SAA
section SAB
variable {d : Nat} {h m0 : mmH} {Q : Int → mmH → Prop}
theorem aB_seed {a : Int} (hy : ∀ x h', seedP h a x h' → Q x h') : qC tFB (d + 1) k_c_seed [1, a] h Q :=
  qC_intro (TB_c_seed_0 _ _ _ _ _ _ ⟨fun c => hy _ _ (Or.inl ⟨c, rfl, rfl⟩), fun c => hy _ _ (Or.inr ⟨c, rfl, rfl⟩)⟩)
theorem aB_end {a : Int} (hy : ∀ x h', endP h a x h' → Q x h') : qC tFB (d + 1) k_c_end [1, a] h Q :=
  qC_intro (TB_c_end_0 _ _ _ _ _ _ ⟨fun c => hy _ _ (Or.inr ⟨by omega, rfl, rfl⟩), fun c => ⟨fun c2 => hy _ _ (Or.inl ⟨by omega, rfl, rfl⟩), fun c2 => hy _ _ (Or.inr ⟨by omega, rfl, rfl⟩)⟩⟩)
theorem aB_snow {a : Int} (hC : Cy 46 h m0) (hy : ∀ x h', snowP h a x h' → Q x h') : qC tFB (d + 3) k_c_snow [1, a] h Q := by
  obtain ⟨⟨-, p7⟩, ⟨-, p6⟩⟩ := hC.past
  refine qC_intro (TB_c_snow_0 _ _ _ _ _ _ ⟨fun c => hy _ _ (Or.inr ⟨by omega, rfl, rfl⟩), fun c => ⟨fun c2 => pB_keepForUndo p6 p7 (fun h1 hk => hy _ _ (Or.inl ⟨by omega, ?_, h1, hk, rfl⟩)), fun c2 => hy _ _ (Or.inr ⟨by omega, rfl, rfl⟩)⟩⟩)
  exact kept_fr p6 hk 86 1 (by omega)
theorem aB_patch {a b : Int} (hC : Cy 46 h m0) (hy : ∀ x h', patchP 46 h a b x h' → Q x h') : qC tFB (d + 3) k_c_patch [1, a, b] h Q := by
  obtain ⟨⟨-, p7⟩, ⟨-, p6⟩⟩ := hC.past
  have n1 := hC.1.1.1.2.1.2.1
  refine qC_intro (TB_c_patch_0 _ _ _ _ _ _ _ (pB46_isLot (fun x hx => ⟨fun c => hy _ _ (Or.inr ⟨fun q => hx.neg c q.1, rfl, rfl⟩), fun c => pB46_isLot (fun y hyy => ⟨fun c2 => hy _ _ (Or.inr ⟨fun q => hyy.neg c2 q.2.1, rfl, rfl⟩), fun c2 => ⟨fun c3 => ?_, fun c3 => hy _ _ (Or.inr ⟨fun q => c3 q.2.2.1, rfl, rfl⟩)⟩⟩)⟩)))
  have ha := hx.pos c
  have hb := hyy.pos c2
  have ta := hC.2.2.2.2.1 a ha.1 ha.2
  have tb' := hC.2.2.2.2.1 b hb.1 hb.2
  simp only [Int.reduceAdd] at ta tb'
  simp (disch := omega) only [mmD_iff, mmG_iff, Bool.and_eq_true, Bool.or_eq_true, Nat.beq_refl, true_and, and_true, Option.getD_none, Option.isNone_none, decide_eq_true_eq, lc_lt0, lc_gt0, lc_le0, lc_ge0, lc_eq0, lc_ne0, ite_true, ite_false, fc_tFA_9, fn_tFA_9, fc_tFB_9, fn_tFB_9, sh_9, wn_9, fc_tFA_50, fn_tFA_50, fc_tFB_50, fn_tFB_50, sh_50, wn_50, fc_tFA_20, fn_tFA_20, fc_tFB_20, fn_tFB_20, sh_20, wn_20, fc_tFA_61, fn_tFA_61, fc_tFB_61, fn_tFB_61, sh_61, wn_61, fc_tFA_27, fn_tFA_27, fc_tFB_27, fn_tFB_27, sh_27, wn_27, fc_tFA_68, fn_tFA_68, fc_tFB_68, fn_tFB_68, sh_68, wn_68, fc_tFA_91, fn_tFA_91, fc_tFB_91, fn_tFB_91, sh_91, wn_91]
  refine ⟨by omega, by omega, fun c4 => hy _ _ (Or.inr ⟨fun q => q.2.2.2.1 c4, rfl, rfl⟩), fun c4 => ⟨by omega, fun c5 => hy _ _ (Or.inr ⟨fun q => by have := q.2.2.2.2.1; omega, rfl, rfl⟩), fun c5 => ⟨by omega, fun c6 => pB_keepForUndo p6 p7 (fun h1 hk => ?_), fun c6 => hy _ _ (Or.inr ⟨fun q => c6 q.2.2.2.2.2, rfl, rfl⟩)⟩⟩⟩
  have ea : h1 87 a = h 87 a := kept_fr p6 hk 87 a (by omega)
  have eb : h1 87 b = h 87 b := kept_fr p6 hk 87 b (by omega)
  have eb2 : mmS h1 87 a (h 87 a - 1) 87 b = h 87 b := by rw [mmS_slot, if_neg (by omega)]; exact eb
  rw [ea, mSub_ok (by omega) (by omega), eb2, mAdd_ok (by omega) (by omega)]
  exact ⟨by omega, by omega, by omega, by omega, hy _ _ (Or.inl ⟨⟨ha, hb, c3, c4, by omega, c6⟩, rfl, h1, hk, rfl⟩)⟩
theorem aB_undo (hC : Cy 46 h m0) (hy : ∀ x h', undoP h x h' → Q x h') : qC tFB (d + 2) k_c_undo [1] h Q := by
  obtain ⟨⟨-, p7⟩, ⟨-, p6⟩⟩ := hC.past
  have hr : rfI (102 + 9 * ((h 1 6 + 19) % 20)) := Or.inr ⟨(h 1 6 + 19) % 20, by omega, rfl⟩
  refine qC_intro (TB_c_undo_0 _ _ _ _ _ ⟨fun c => ?_, fun c => hy _ _ (Or.inr ⟨c, rfl, rfl⟩)⟩)
  rw [mAdd_ok (by omega) (by omega), mSub_ok (by omega) (by omega), mSub_ok (a := h 1 7) (by omega) (by omega), mRem_nn (by omega) (by omega) (by decide) (by decide), show h 1 6 + 20 - 1 = h 1 6 + 19 by omega, f95B (by omega) (by omega)]
  exact mmD_of (by omega) (pB_copyFrom (Or.inl rfl) hr (by omega) (fun h1 hc => hy _ _ (Or.inl ⟨c, rfl, hc⟩)))
end SAB
