/-! ===== mm: what undo keeps ===== -/
def rfOk (f : Int → Int → Option Int) (c : Int) : Bool :=
  Nat.beq (tSh c).1 4 && (tWn 1 c && ((f c 0 == none) && ((f c 1 == none) && ((f c 2 == none) && ((f c 3 == some (c + 1)) && ((f c 4 == some (c + 2)) && ((f c 5 == some (c + 3)) && ((f c 6 == some (c + 4)) && ((f c 7 == some (c + 5)) &&
  ((tSh (c + 1) == (100, 10)) && ((tSh (c + 2) == (100, 6)) && ((tSh (c + 3) == (100, 6)) && ((tSh (c + 4) == (100, 5)) && ((tSh (c + 5) == (104, 3)) && (tWn 1 (c + 1) && (tWn 1 (c + 2) && (tWn 1 (c + 3) && (tWn 1 (c + 4) &&
  ((f (c + 5) 0 == some (c + 6)) && ((f (c + 5) 1 == some (c + 7)) && ((f (c + 5) 2 == some (c + 8)) && ((tSh (c + 6) == (100, 60)) && ((tSh (c + 7) == (100, 60)) && ((tSh (c + 8) == (100, 60)) && (tWn 1 (c + 6) && (tWn 1 (c + 7) && tWn 1 (c + 8)))))))))))))))))))))))))))
def rfI (c : Int) : Prop := c = 86 ∨ ∃ i : Int, (0 ≤ i ∧ i < 20) ∧ c = 102 + 9 * i
theorem rfA86 : rfOk tFA 86 = true := by decide +kernel
theorem rfB86 : rfOk tFB 86 = true := by decide +kernel
theorem rfAi : ∀ i : Fin 20, rfOk tFA (102 + 9 * (i.val : Int)) = true := by decide +kernel
theorem rfBi : ∀ i : Fin 20, rfOk tFB (102 + 9 * (i.val : Int)) = true := by decide +kernel
theorem rfA {c : Int} (h : rfI c) : rfOk tFA c = true := by
  rcases h with rfl | ⟨i, hi, rfl⟩
  · exact rfA86
  · have := rfAi ⟨i.toNat, by omega⟩
    rw [show (((⟨i.toNat, by omega⟩ : Fin 20).val : Nat) : Int) = i by show ((i.toNat : Nat) : Int) = i; omega] at this
    exact this
theorem rfB {c : Int} (h : rfI c) : rfOk tFB c = true := by
  rcases h with rfl | ⟨i, hi, rfl⟩
  · exact rfB86
  · have := rfBi ⟨i.toNat, by omega⟩
    rw [show (((⟨i.toNat, by omega⟩ : Fin 20).val : Nat) : Int) = i by show ((i.toNat : Nat) : Int) = i; omega] at this
    exact this
theorem rf95A : ∀ i : Fin 20, tFA 95 (i.val : Int) = some (102 + 9 * (i.val : Int)) := by decide +kernel
theorem rf95B : ∀ i : Fin 20, tFB 95 (i.val : Int) = some (102 + 9 * (i.val : Int)) := by decide +kernel
theorem f95A {i x : Int} (h1 : 0 ≤ i) (h2 : i < 20) : (tFA 95 i).getD x = 102 + 9 * i := by
  have := rf95A ⟨i.toNat, by omega⟩
  rw [show (((⟨i.toNat, by omega⟩ : Fin 20).val : Nat) : Int) = i by show ((i.toNat : Nat) : Int) = i; omega] at this
  rw [this]; rfl
theorem f95B {i x : Int} (h1 : 0 ≤ i) (h2 : i < 20) : (tFB 95 i).getD x = 102 + 9 * i := by
  have := rf95B ⟨i.toNat, by omega⟩
  rw [show (((⟨i.toNat, by omega⟩ : Fin 20).val : Nat) : Int) = i by show ((i.toNat : Nat) : Int) = i; omega] at this
  rw [this]; rfl
theorem mmCpy_at (h : mmH) (a b n k i : Int) : mmCpy h a 0 b 0 n k i = if k = b ∧ 0 ≤ i ∧ i < n then h a i else h k i := by
  unfold mmCpy
  by_cases q : k = b
  · rw [if_pos q]
    by_cases q2 : 0 ≤ i ∧ i < n
    · rw [if_pos (by omega), if_pos ⟨q, q2⟩, show 0 + (i - 0) = i by omega]
    · rw [if_neg (by omega), if_neg (fun z => q2 z.2)]
  · rw [if_neg q, if_neg (fun z => q z.1)]
/-- one row of roofs taken over from another -/
def cpR (n : Int) (c c' : Int) (h h' : mmH) : Prop := ∀ i, 0 ≤ i → i < n → h' c i = h c' i
def cpyd (c c' : Int) (h h' : mmH) : Prop := Fr (fun k _ => c ≤ k ∧ k ≤ c + 8) h h' ∧ cpR 3 c c' h h' ∧ cpR 10 (c + 1) (c' + 1) h h' ∧ cpR 6 (c + 2) (c' + 2) h h' ∧ cpR 6 (c + 3) (c' + 3) h h' ∧ cpR 5 (c + 4) (c' + 4) h h' ∧ cpR 60 (c + 6) (c' + 6) h h' ∧ cpR 60 (c + 7) (c' + 7) h h' ∧ cpR 60 (c + 8) (c' + 8) h h'
section KUA
variable {d : Nat} {h m0 : mmH} {Q : Int → mmH → Prop}
theorem pA_copyFrom {c c' : Int} (hc : rfI c) (hc' : rfI c') (hne : c ≠ c') (hy : ∀ h', cpyd c c' h h' → Q 0 h') : qC tFA (d + 1) k_Roofs_copyFrom [c, c'] h Q := by
  have hd : c + 8 < c' ∨ c' + 8 < c := by
    rcases hc with q | ⟨i, q1, q⟩ <;> rcases hc' with q' | ⟨j, q2, q'⟩ <;> omega
  have o1 := rfA hc
  have o2 := rfA hc'
  simp only [rfOk, Bool.and_eq_true, beq_iff_eq, Nat.beq_eq_true_eq] at o1 o2
  obtain ⟨a1, a2, a3, a4, a5, a6, a7, a8, a9, a10, a11, a12, a13, a14, a15, a16, a17, a18, a19, a20, a21, a22, a23, a24, a25, a26, a27, a28⟩ := o1
  obtain ⟨b1, b2, b3, b4, b5, b6, b7, b8, b9, b10, b11, b12, b13, b14, b15, b16, b17, b18, b19, b20, b21, b22, b23, b24, b25, b26, b27, b28⟩ := o2
  refine qC_intro (TA_Roofs_copyFrom_0 _ _ _ _ _ _ _ ?_)
  simp only [mmD_iff, mmG_iff, Bool.and_eq_true, Bool.or_eq_true, Nat.beq_refl, true_and, and_true, Option.getD_none, Option.isNone_none, decide_eq_true_eq, lc_lt0, lc_gt0, lc_le0, lc_ge0, lc_eq0, lc_ne0, ite_true, ite_false, a1, a2, a3, a4, a5, a6, a7, a8, a9, a10, a11, a12, a13, a14, a15, a16, a17, a18, a19, b1, b2, b3, b4, b5, b6, b7, b8, b9, b10, b11, b12, b13, b14, b15, Option.getD_some]
  generalize hH : mmS (mmS (mmS h c 0 (h c' 0)) c 1 (mmS h c 0 (h c' 0) c' 1)) c 2 (mmS (mmS h c 0 (h c' 0)) c 1 (mmS h c 0 (h c' 0) c' 1) c' 2) = H
  have Hn : ∀ k i, k ≠ c → H k i = h k i := fun k i q => by rw [← hH, mmS_cell q, mmS_cell q, mmS_cell q]
  have Hc : cpR 3 c c' h H := fun i i1 i2 => by
    rw [← hH, mmS_slot, mmS_slot, mmS_slot, mmS_cell (by omega), mmS_cell (by omega), mmS_cell (by omega)]
    rcases (by omega : i = 0 ∨ i = 1 ∨ i = 2) with q | q | q <;> subst q <;> simp
  refine ⟨by omega, by omega, TA_Roofs_copyFrom_0_28 _ _ _ _ _ _ _ ?_⟩
  simp only [mmD_iff, mmG_iff, Bool.and_eq_true, Bool.or_eq_true, Nat.beq_refl, true_and, and_true, Option.getD_none, Option.isNone_none, decide_eq_true_eq, lc_lt0, lc_gt0, lc_le0, lc_ge0, lc_eq0, lc_ne0, ite_true, ite_false, a1, a2, a3, a4, a5, a6, a7, a8, a9, a10, a11, a12, a13, a14, a15, a16, a17, a18, a19, b1, b2, b3, b4, b5, b6, b7, b8, b9, b10, b11, b12, b13, b14, b15, Option.getD_some]
  refine ⟨by omega, by omega, TA_Roofs_copyFrom_1 _ _ _ _ _ _ _ _ ⟨fun q => absurd q (by decide), fun _ => ?_⟩⟩
  simp only [mmD_iff, mmG_iff, Bool.and_eq_true, Bool.or_eq_true, Nat.beq_refl, true_and, and_true, Option.getD_none, Option.isNone_none, decide_eq_true_eq, lc_lt0, lc_gt0, lc_le0, lc_ge0, lc_eq0, lc_ne0, ite_true, ite_false, a1, a10, a15, a20, a21, a22, a23, a24, a25, a26, a27, a28, b1, b10, b15, b20, b21, b22, b23, b24, b25, Option.getD_some]
  rw [mAdd_ok (by decide) (by decide), show (0 : Int) + 1 = 1 from rfl]
  refine ⟨by omega, by omega, by omega, TA_Roofs_copyFrom_1 _ _ _ _ _ _ _ _ ⟨fun q => absurd q (by decide), fun _ => ?_⟩⟩
  simp only [mmD_iff, mmG_iff, Bool.and_eq_true, Bool.or_eq_true, Nat.beq_refl, true_and, and_true, Option.getD_none, Option.isNone_none, decide_eq_true_eq, lc_lt0, lc_gt0, lc_le0, lc_ge0, lc_eq0, lc_ne0, ite_true, ite_false, a1, a10, a15, a20, a21, a22, a23, a24, a25, a26, a27, a28, b1, b10, b15, b20, b21, b22, b23, b24, b25, Option.getD_some]
  rw [mAdd_ok (by decide) (by decide), show (1 : Int) + 1 = 2 from rfl]
  refine ⟨by omega, by omega, by omega, TA_Roofs_copyFrom_1 _ _ _ _ _ _ _ _ ⟨fun q => absurd q (by decide), fun _ => ?_⟩⟩
  simp only [mmD_iff, mmG_iff, Bool.and_eq_true, Bool.or_eq_true, Nat.beq_refl, true_and, and_true, Option.getD_none, Option.isNone_none, decide_eq_true_eq, lc_lt0, lc_gt0, lc_le0, lc_ge0, lc_eq0, lc_ne0, ite_true, ite_false, a1, a10, a15, a20, a21, a22, a23, a24, a25, a26, a27, a28, b1, b10, b15, b20, b21, b22, b23, b24, b25, Option.getD_some]
  rw [mAdd_ok (by decide) (by decide), show (2 : Int) + 1 = 3 from rfl]
  refine ⟨by omega, by omega, by omega, TA_Roofs_copyFrom_1 _ _ _ _ _ _ _ _ ⟨fun _ => hy _ ?_, fun q => absurd (by decide) q⟩⟩
  refine ⟨fun k i q => ?_, fun i i1 i2 => ?_, fun i i1 i2 => ?_, fun i i1 i2 => ?_, fun i i1 i2 => ?_, fun i i1 i2 => ?_, fun i i1 i2 => ?_, fun i i1 i2 => ?_, fun i i1 i2 => ?_⟩
  · simp (disch := omega) only [mmCpy_at, if_neg]
    exact Hn k i (by omega)
  · simp (disch := omega) only [mmCpy_at, if_neg]
    exact Hc i i1 i2
  all_goals
    simp (disch := omega) only [mmCpy_at, if_pos, if_neg]
    rw [if_pos ⟨trivial, i1, i2⟩]
    refine Hn _ _ ?_
    omega
end KUA
section KUB
variable {d : Nat} {h m0 : mmH} {Q : Int → mmH → Prop}
theorem pB_copyFrom {c c' : Int} (hc : rfI c) (hc' : rfI c') (hne : c ≠ c') (hy : ∀ h', cpyd c c' h h' → Q 0 h') : qC tFB (d + 1) k_Roofs_copyFrom [c, c'] h Q := by
  have hd : c + 8 < c' ∨ c' + 8 < c := by
    rcases hc with q | ⟨i, q1, q⟩ <;> rcases hc' with q' | ⟨j, q2, q'⟩ <;> omega
  have o1 := rfB hc
  have o2 := rfB hc'
  simp only [rfOk, Bool.and_eq_true, beq_iff_eq, Nat.beq_eq_true_eq] at o1 o2
  obtain ⟨a1, a2, a3, a4, a5, a6, a7, a8, a9, a10, a11, a12, a13, a14, a15, a16, a17, a18, a19, a20, a21, a22, a23, a24, a25, a26, a27, a28⟩ := o1
  obtain ⟨b1, b2, b3, b4, b5, b6, b7, b8, b9, b10, b11, b12, b13, b14, b15, b16, b17, b18, b19, b20, b21, b22, b23, b24, b25, b26, b27, b28⟩ := o2
  refine qC_intro (TB_Roofs_copyFrom_0 _ _ _ _ _ _ _ ?_)
  simp only [mmD_iff, mmG_iff, Bool.and_eq_true, Bool.or_eq_true, Nat.beq_refl, true_and, and_true, Option.getD_none, Option.isNone_none, decide_eq_true_eq, lc_lt0, lc_gt0, lc_le0, lc_ge0, lc_eq0, lc_ne0, ite_true, ite_false, a1, a2, a3, a4, a5, a6, a7, a8, a9, a10, a11, a12, a13, a14, a15, a16, a17, a18, a19, b1, b2, b3, b4, b5, b6, b7, b8, b9, b10, b11, b12, b13, b14, b15, Option.getD_some]
  generalize hH : mmS (mmS (mmS h c 0 (h c' 0)) c 1 (mmS h c 0 (h c' 0) c' 1)) c 2 (mmS (mmS h c 0 (h c' 0)) c 1 (mmS h c 0 (h c' 0) c' 1) c' 2) = H
  have Hn : ∀ k i, k ≠ c → H k i = h k i := fun k i q => by rw [← hH, mmS_cell q, mmS_cell q, mmS_cell q]
  have Hc : cpR 3 c c' h H := fun i i1 i2 => by
    rw [← hH, mmS_slot, mmS_slot, mmS_slot, mmS_cell (by omega), mmS_cell (by omega), mmS_cell (by omega)]
    rcases (by omega : i = 0 ∨ i = 1 ∨ i = 2) with q | q | q <;> subst q <;> simp
  refine ⟨by omega, by omega, TB_Roofs_copyFrom_0_28 _ _ _ _ _ _ _ ?_⟩
  simp only [mmD_iff, mmG_iff, Bool.and_eq_true, Bool.or_eq_true, Nat.beq_refl, true_and, and_true, Option.getD_none, Option.isNone_none, decide_eq_true_eq, lc_lt0, lc_gt0, lc_le0, lc_ge0, lc_eq0, lc_ne0, ite_true, ite_false, a1, a2, a3, a4, a5, a6, a7, a8, a9, a10, a11, a12, a13, a14, a15, a16, a17, a18, a19, b1, b2, b3, b4, b5, b6, b7, b8, b9, b10, b11, b12, b13, b14, b15, Option.getD_some]
  refine ⟨by omega, by omega, TB_Roofs_copyFrom_1 _ _ _ _ _ _ _ _ ⟨fun q => absurd q (by decide), fun _ => ?_⟩⟩
  simp only [mmD_iff, mmG_iff, Bool.and_eq_true, Bool.or_eq_true, Nat.beq_refl, true_and, and_true, Option.getD_none, Option.isNone_none, decide_eq_true_eq, lc_lt0, lc_gt0, lc_le0, lc_ge0, lc_eq0, lc_ne0, ite_true, ite_false, a1, a10, a15, a20, a21, a22, a23, a24, a25, a26, a27, a28, b1, b10, b15, b20, b21, b22, b23, b24, b25, Option.getD_some]
  rw [mAdd_ok (by decide) (by decide), show (0 : Int) + 1 = 1 from rfl]
  refine ⟨by omega, by omega, by omega, TB_Roofs_copyFrom_1 _ _ _ _ _ _ _ _ ⟨fun q => absurd q (by decide), fun _ => ?_⟩⟩
  simp only [mmD_iff, mmG_iff, Bool.and_eq_true, Bool.or_eq_true, Nat.beq_refl, true_and, and_true, Option.getD_none, Option.isNone_none, decide_eq_true_eq, lc_lt0, lc_gt0, lc_le0, lc_ge0, lc_eq0, lc_ne0, ite_true, ite_false, a1, a10, a15, a20, a21, a22, a23, a24, a25, a26, a27, a28, b1, b10, b15, b20, b21, b22, b23, b24, b25, Option.getD_some]
  rw [mAdd_ok (by decide) (by decide), show (1 : Int) + 1 = 2 from rfl]
  refine ⟨by omega, by omega, by omega, TB_Roofs_copyFrom_1 _ _ _ _ _ _ _ _ ⟨fun q => absurd q (by decide), fun _ => ?_⟩⟩
  simp only [mmD_iff, mmG_iff, Bool.and_eq_true, Bool.or_eq_true, Nat.beq_refl, true_and, and_true, Option.getD_none, Option.isNone_none, decide_eq_true_eq, lc_lt0, lc_gt0, lc_le0, lc_ge0, lc_eq0, lc_ne0, ite_true, ite_false, a1, a10, a15, a20, a21, a22, a23, a24, a25, a26, a27, a28, b1, b10, b15, b20, b21, b22, b23, b24, b25, Option.getD_some]
  rw [mAdd_ok (by decide) (by decide), show (2 : Int) + 1 = 3 from rfl]
  refine ⟨by omega, by omega, by omega, TB_Roofs_copyFrom_1 _ _ _ _ _ _ _ _ ⟨fun _ => hy _ ?_, fun q => absurd (by decide) q⟩⟩
  refine ⟨fun k i q => ?_, fun i i1 i2 => ?_, fun i i1 i2 => ?_, fun i i1 i2 => ?_, fun i i1 i2 => ?_, fun i i1 i2 => ?_, fun i i1 i2 => ?_, fun i i1 i2 => ?_, fun i i1 i2 => ?_⟩
  · simp (disch := omega) only [mmCpy_at, if_neg]
    exact Hn k i (by omega)
  · simp (disch := omega) only [mmCpy_at, if_neg]
    exact Hc i i1 i2
  all_goals
    simp (disch := omega) only [mmCpy_at, if_pos, if_neg]
    rw [if_pos ⟨trivial, i1, i2⟩]
    refine Hn _ _ ?_
    omega
end KUB
