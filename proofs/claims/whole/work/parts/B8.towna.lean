/-! ===== mm: town, class side ===== -/
theorem inv_put {f : Int → Int → Option Int} {h : mmH} {k i x : Int} (hn : f k i = none) (hI : mmInv f h) : mmInv f (mmS h k i x) := fun a b c e => by
  by_cases q : a = k
  · subst q
    rw [mmS_slot]
    by_cases q2 : b = i
    · subst q2; rw [hn] at e; cases e
    · rw [if_neg q2]; exact hI _ _ _ e
  · rw [mmS_cell q]; exact hI _ _ _ e
theorem tf13 : ∀ j : Fin 336, j.val ≠ 1 → j.val ≠ 3 → tFLA.getD j.val [] = tFLB.getD j.val [] := by decide +kernel
theorem tf1A : tFLA.getD 1 [] = [(0, 2), (2, 3), (3, 5), (4, 86), (5, 95), (9, 96), (10, 101)] ∧ tFLA.getD 3 [] = [(7, 46), (8, 45)] ∧ tFLB.getD 1 [] = [(0, 2), (2, 3), (3, 46), (4, 86), (5, 95), (9, 96), (10, 101)] ∧ tFLB.getD 3 [] = [(7, 5), (8, 45)] := by decide +kernel
theorem lk_cons {a : Int} {k v : Int} {l : List (Int × Int)} : List.lookup a ((k, v) :: l) = if a = k then some v else List.lookup a l := by
  show (match a == k with | true => some v | false => List.lookup a l) = _
  by_cases q : a = k
  · rw [if_pos q, q, beq_self_eq_true]
  · rw [if_neg q, show (a == k) = false by simpa using q]
theorem tf1 (i : Int) : tFA 1 i = (if i = 0 then some 2 else if i = 2 then some 3 else if i = 3 then some 5 else if i = 4 then some 86 else if i = 5 then some 95 else if i = 9 then some 96 else if i = 10 then some 101 else none) ∧ tFB 1 i = (if i = 0 then some 2 else if i = 2 then some 3 else if i = 3 then some 46 else if i = 4 then some 86 else if i = 5 then some 95 else if i = 9 then some 96 else if i = 10 then some 101 else none) := by
  have e1 : tFA 1 i = (tFLA.getD 1 []).lookup i := rfl
  have e2 : tFB 1 i = (tFLB.getD 1 []).lookup i := rfl
  rw [e1, e2, tf1A.1, tf1A.2.2.1]
  simp only [lk_cons]
  exact ⟨rfl, rfl⟩
theorem tf3 (i : Int) : tFA 3 i = (if i = 7 then some 46 else if i = 8 then some 45 else none) ∧ tFB 3 i = (if i = 7 then some 5 else if i = 8 then some 45 else none) := by
  have e1 : tFA 3 i = (tFLA.getD 3 []).lookup i := rfl
  have e2 : tFB 3 i = (tFLB.getD 3 []).lookup i := rfl
  rw [e1, e2, tf1A.2.1, tf1A.2.2.2]
  simp only [lk_cons]
  exact ⟨rfl, rfl⟩
theorem tfo {k : Int} (h1 : k ≠ 1) (h3 : k ≠ 3) (i : Int) : tFA k i = tFB k i := by
  unfold tFA tFB
  by_cases q : k < 0
  · rw [if_pos q, if_pos q]
  · rw [if_neg q, if_neg q]
    by_cases q2 : k.toNat < 336
    · have := tf13 ⟨k.toNat, q2⟩ (by show k.toNat ≠ 1; omega) (by show k.toNat ≠ 3; omega)
      rw [show tFLA.getD k.toNat [] = tFLB.getD k.toNat [] from this]
    · rw [getD_out _ _ (by rw [len336.1]; omega), getD_out _ _ (by rw [len336.2.1]; omega)]
theorem swapA {h : mmH} (hI : mmInv tFA h) : mmInv tFB (mmS (mmS h 3 7 5) 1 3 46) := fun k i c e => by
  by_cases q1 : k = 1
  · subst q1
    rw [mmS_slot]
    by_cases q : i = 3
    · rw [(tf1 i).2, q] at e
      rw [if_pos q]
      simpa using e
    · rw [if_neg q, mmS_cell (by omega)]
      refine hI 1 i c ?_
      rw [(tf1 i).2, if_neg q] at e
      rw [(tf1 i).1, if_neg q]
      exact e
  · rw [mmS_cell q1]
    by_cases q3 : k = 3
    · subst q3
      rw [mmS_slot]
      by_cases q : i = 7
      · rw [(tf3 i).2, if_pos q] at e
        rw [if_pos q]
        simpa using e
      · rw [if_neg q]
        refine hI 3 i c ?_
        rw [(tf3 i).2, if_neg q] at e
        rw [(tf3 i).1, if_neg q]
        exact e
    · rw [mmS_cell q3]
      exact hI k i c (by rw [tfo q1 q3]; exact e)
theorem swapB {h : mmH} (hI : mmInv tFB h) : mmInv tFA (mmS (mmS h 3 7 46) 1 3 5) := fun k i c e => by
  by_cases q1 : k = 1
  · subst q1
    rw [mmS_slot]
    by_cases q : i = 3
    · rw [(tf1 i).1, q] at e
      rw [if_pos q]
      simpa using e
    · rw [if_neg q, mmS_cell (by omega)]
      refine hI 1 i c ?_
      rw [(tf1 i).1, if_neg q] at e
      rw [(tf1 i).2, if_neg q]
      exact e
  · rw [mmS_cell q1]
    by_cases q3 : k = 3
    · subst q3
      rw [mmS_slot]
      by_cases q : i = 7
      · rw [(tf3 i).1, if_pos q] at e
        rw [if_pos q]
        simpa using e
      · rw [if_neg q]
        refine hI 3 i c ?_
        rw [(tf3 i).1, if_neg q] at e
        rw [(tf3 i).2, if_neg q]
        exact e
    · rw [mmS_cell q3]
      exact hI k i c (by rw [← tfo q1 q3]; exact e)
theorem tmd : (tMp k_TownText_open).2.2.2.2.2 ≠ 0 ∧ (tMp k_TownText_goesOn).2.2.2.2.2 ≠ 0 ∧ (tMp k_TownText_readStatement).2.2.2.2.2 ≠ 0 ∧ (tMp k_TownText_close).2.2.2.2.2 ≠ 0 ∧ (tMp k_Roofs_begin).2.2.2.2.2 ≠ 0 := by decide +kernel
theorem ts86 : (tSh 86).1 = 4 ∧ (tSh 3).1 = 1 := by decide +kernel
section TWA
variable {d : Nat} {h m0 : mmH} {Q : Int → mmH → Prop}
theorem inzA (hI : mmInv tFA h) : h 1 0 = 2 ∧ h 1 2 = 3 ∧ h 1 3 = 5 ∧ h 1 4 = 86 ∧ h 3 7 = 46 :=
  ⟨hI 1 0 2 (by rw [(tf1 0).1]; rfl), hI 1 2 3 (by rw [(tf1 2).1]; rfl), hI 1 3 5 (by rw [(tf1 3).1]; rfl), hI 1 4 86 (by rw [(tf1 4).1]; rfl), hI 3 7 46 (by rw [(tf3 7).1]; rfl)⟩
theorem aA_town (hI : mmInv tFA h) (hC : Cy 5 h m0) (hy : ∀ x h' u', townP 5 46 h x h' u' → mmInv (tFu u') h' → Q x h') : qC tFN (d + 70) k_c_town [1] h Q := by
  have hv : (46 : Int) = 5 ∨ (46 : Int) = 46 := by decide
  have tp := hC.1.2.2.1
  have ow := hC.1.2.2.2.2.2.2
  obtain ⟨i0, i2, i3, i4, i7⟩ := inzA hI
  have beq1 : Nat.beq (tSh 3).1 1 = true := by rw [ts86.2]; rfl
  refine qC_intro (T0_c_town_0 _ _ _ _ _ ?_)
  rw [i2, i0]
  refine mmG_of beq1 (q_up f100A tmd.1 hI (pA_open tp.1.2.2 rfl (fun h1 ho hI1 => ?_)))
  obtain ⟨o0, ⟨o1, o2, o3, o4, o5, o6⟩, ⟨p0, p1, p2, p3, p4, p5, p6, p7⟩, o7⟩ := id ho
  have i11 : tFA 1 1 = none := by rw [(tf1 1).1]; rfl
  have i17 : ∀ z, (tFB 1 7 = some z) → False := fun z e => by rw [(tf1 7).2] at e; cases e
  have hI2 : mmInv tFA (mmS h1 1 1 0) := inv_put i11 hI1
  have S0 : St 46 0 (mmS h1 1 1 0) := by
    have z : ∀ k i, k ≠ 1 → mmS h1 1 1 0 k i = h1 k i := fun k i q => mmS_cell q
    refine ⟨⟨?_, ⟨?_, ?_, ?_⟩, fun i j1 j2 => ?_, ?_, fun k k1 k2 => ?_⟩, ?_, ?_, ?_, ?_, ?_⟩
    · rw [z 3 2 (by omega)]; exact o1
    · rw [z 3 4 (by omega), o3]; omega
    · rw [z 3 4 (by omega), z 3 3 (by omega), o3, o2]; exact tp.1.2.1
    · rw [z 3 3 (by omega), o2]; exact tp.1.2.2
    · rw [z 2 i (by omega), o0 2 i (by omega)]; exact (tp.2 i j1 j2).2
    · rw [z _ _ (by omega)]
      have : h1 (46 + 33) 1 = 0 := p7
      omega
    · rw [z 45 k (by omega), o0 45 k (by omega)]; exact ow k k1 k2
    · rw [z _ _ (by omega), p0]; omega
    · rw [z _ _ (by omega), p1]; omega
    · rw [z _ _ (by omega), p3]; omega
    · rw [z _ _ (by omega), p2]; omega
    · rw [z _ _ (by omega)]
      have : h1 (46 + 33) 0 = 0 := p6
      omega
  have b2 : ∀ (c w : Int) (g : mmH), lpH 46 80 (mmS h1 1 1 0) = g → cnH 46 80 (mmS h1 1 1 0) = c → mmInv tFA g → St 46 100 g → qB tFN (d + 69) k_c_town (h 0 0) (h 0 1) Q 2 [(3, 1), (1, c), (1, w)] [] g := by
    intro c w g eg ec gI gS
    obtain ⟨j0, j2, j3, j4, j7⟩ := inzA gI
    have eE : clsH g = eoT 46 (mmS h1 1 1 0) := by unfold eoT; rw [eg]
    refine T0_c_town_2 _ _ _ _ _ _ _ ?_
    rw [j2]
    refine mmG_of beq1 (q_up f100A tmd.2.2.2.1 gI (pA_close gS (fun eI => ?_)))
    rw [eE] at eI ⊢
    obtain ⟨l0, l2, l3, l4, l7⟩ := inzA eI
    have eS : St 46 100 (eoT 46 (mmS h1 1 1 0)) := by
      rw [← eE]
      unfold clsH
      split
      · exact St_fr hv (fr_sk.tr fr_fl) (Sc_fl hv (Sc_sk hv gS.1)) gS
      · exact St_sk hv gS
    generalize hE : eoT 46 (mmS h1 1 1 0) = E at eI eE eS l0 l2 l3 l4 l7 ⊢
    rw [l2, l3]
    refine mmG_of beq1 (mmG_of beq1 ⟨fun c0 => ?_, fun c0 => ?_⟩)
    · refine mmG_of beq1 (qC_intro (T0_TownText_handOver_0 _ _ _ _ _ _ ?_))
      rw [mmS_cell (by omega), l4, l7]
      have sw := swapA eI
      refine mmG_of (by rw [ts86.1]; rfl) (q_up f100B tmd.2.2.2.2 sw (pB_begins ?_ ?_ (fun h2 hb hI3 => hy _ _ 46 ⟨h1, ho, Or.inr ⟨?_, ec.symm, ⟨h2, ?_, rfl⟩, rfl⟩⟩ ?_)))
      · rw [mmS_cell (by omega), mmS_cell (by omega)]; exact eS.2.2.1
      · rw [mmS_cell (by omega), mmS_cell (by omega)]; exact eS.2.2.2.1
      · rw [hE]; exact c0
      · rw [hE]; exact hb
      · have : tFu 46 = tFB := by unfold tFu; first | exact if_pos rfl | exact if_neg (by decide)
        rw [this]
        refine inv_put ?_ hI3
        cases q : tFB 1 7 with
        | none => rfl
        | some z => exact (i17 z q).elim
    · refine hy _ _ 5 ⟨h1, ho, Or.inl ⟨?_, rfl, ?_, rfl⟩⟩ ?_
      · rw [hE]; exact c0
      · rw [hE]
      · have : tFu 5 = tFA := by unfold tFu; first | exact if_pos rfl | exact if_neg (by decide)
        rw [this]; exact eI
  have key : ∀ (m n : Nat) (g : mmH), n + m = 80 → mmInv tFA g → St 46 n g → lpH 46 80 (mmS h1 1 1 0) = lpH 46 m g → cnH 46 80 (mmS h1 1 1 0) = (n : Int) + cnH 46 m g → qB tFN (d + 69) k_c_town (h 0 0) (h 0 1) Q 1 [(3, 1), (1, (n : Int)), (1, (n : Int))] [] g := by
    intro m
    induction m with
    | zero =>
      intro n g hn gI gS el ec
      refine T0_c_town_1 _ _ _ _ _ _ _ ⟨fun _ => b2 _ _ g el ?_ gI (St_mono (by omega) gS), fun c => absurd (by omega) c⟩
      rw [ec]; unfold cnH; omega
    | succ m ih =>
      intro n g hn gI gS el ec
      obtain ⟨j0, j2, -⟩ := inzA gI
      have el : lpH 46 80 (mmS h1 1 1 0) = (if skH g 3 0 = 0 ∧ skH g 3 4 < skH g 3 3 then lpH 46 m (stmF 46 (skH g)) else skH g) := el
      have ec : cnH 46 80 (mmS h1 1 1 0) = (n : Int) + (if skH g 3 0 = 0 ∧ skH g 3 4 < skH g 3 3 then 1 + cnH 46 m (stmF 46 (skH g)) else 0) := ec
      refine T0_c_town_1 _ _ _ _ _ _ _ ⟨fun c => absurd c (by omega), fun _ => ?_⟩
      rw [j2]
      refine mmG_of beq1 (q_up f100A tmd.2.1 gI (pA_goesOn gS (fun x hx sI => ⟨fun c => ?_, fun c => ?_⟩)))
      · rw [if_neg (hx.neg c)] at el ec
        exact b2 _ _ _ el (by omega) sI (St_mono (by omega) (St_sk hv gS))
      · rw [if_pos (hx.pos c)] at el ec
        obtain ⟨k0, k2, -⟩ := inzA sI
        rw [k2]
        have sS := St_sk hv gS
        refine mmG_of beq1 (q_up f100A tmd.2.2.1 sI (qC_le (d := d + 66) (by omega) (pA_readStatement (by omega) sS (fun tI => ?_))))
        rw [mAdd_ok (by omega) (by omega), show (n : Int) + 1 = ((n + 1 : Nat) : Int) by omega]
        exact ih (n + 1) _ (by omega) tI (by rw [show ((n + 1 : Nat) : Int) = (n : Int) + 1 by omega]; exact St_stm hv sS) el (by omega)
  exact key 80 0 _ (by omega) hI2 S0 rfl (by omega)
end TWA
section TWB
variable {d : Nat} {h m0 : mmH} {Q : Int → mmH → Prop}
theorem inzB (hI : mmInv tFB h) : h 1 0 = 2 ∧ h 1 2 = 3 ∧ h 1 3 = 46 ∧ h 1 4 = 86 ∧ h 3 7 = 5 :=
  ⟨hI 1 0 2 (by rw [(tf1 0).2]; rfl), hI 1 2 3 (by rw [(tf1 2).2]; rfl), hI 1 3 46 (by rw [(tf1 3).2]; rfl), hI 1 4 86 (by rw [(tf1 4).2]; rfl), hI 3 7 5 (by rw [(tf3 7).2]; rfl)⟩
theorem aB_town (hI : mmInv tFB h) (hC : Cy 46 h m0) (hy : ∀ x h' u', townP 46 5 h x h' u' → mmInv (tFu u') h' → Q x h') : qC tFN (d + 70) k_c_town [1] h Q := by
  have hv : (5 : Int) = 5 ∨ (5 : Int) = 46 := by decide
  have tp := hC.1.2.2.1
  have ow := hC.1.2.2.2.2.2.2
  obtain ⟨i0, i2, i3, i4, i7⟩ := inzB hI
  have beq1 : Nat.beq (tSh 3).1 1 = true := by rw [ts86.2]; rfl
  refine qC_intro (T0_c_town_0 _ _ _ _ _ ?_)
  rw [i2, i0]
  refine mmG_of beq1 (q_up f100B tmd.1 hI (pB_open tp.1.2.2 rfl (fun h1 ho hI1 => ?_)))
  obtain ⟨o0, ⟨o1, o2, o3, o4, o5, o6⟩, ⟨p0, p1, p2, p3, p4, p5, p6, p7⟩, o7⟩ := id ho
  have i11 : tFB 1 1 = none := by rw [(tf1 1).2]; rfl
  have i17 : ∀ z, (tFA 1 7 = some z) → False := fun z e => by rw [(tf1 7).1] at e; cases e
  have hI2 : mmInv tFB (mmS h1 1 1 0) := inv_put i11 hI1
  have S0 : St 5 0 (mmS h1 1 1 0) := by
    have z : ∀ k i, k ≠ 1 → mmS h1 1 1 0 k i = h1 k i := fun k i q => mmS_cell q
    refine ⟨⟨?_, ⟨?_, ?_, ?_⟩, fun i j1 j2 => ?_, ?_, fun k k1 k2 => ?_⟩, ?_, ?_, ?_, ?_, ?_⟩
    · rw [z 3 2 (by omega)]; exact o1
    · rw [z 3 4 (by omega), o3]; omega
    · rw [z 3 4 (by omega), z 3 3 (by omega), o3, o2]; exact tp.1.2.1
    · rw [z 3 3 (by omega), o2]; exact tp.1.2.2
    · rw [z 2 i (by omega), o0 2 i (by omega)]; exact (tp.2 i j1 j2).2
    · rw [z _ _ (by omega)]
      have : h1 (5 + 33) 1 = 0 := p7
      omega
    · rw [z 45 k (by omega), o0 45 k (by omega)]; exact ow k k1 k2
    · rw [z _ _ (by omega), p0]; omega
    · rw [z _ _ (by omega), p1]; omega
    · rw [z _ _ (by omega), p3]; omega
    · rw [z _ _ (by omega), p2]; omega
    · rw [z _ _ (by omega)]
      have : h1 (5 + 33) 0 = 0 := p6
      omega
  have b2 : ∀ (c w : Int) (g : mmH), lpH 5 80 (mmS h1 1 1 0) = g → cnH 5 80 (mmS h1 1 1 0) = c → mmInv tFB g → St 5 100 g → qB tFN (d + 69) k_c_town (h 0 0) (h 0 1) Q 2 [(3, 1), (1, c), (1, w)] [] g := by
    intro c w g eg ec gI gS
    obtain ⟨j0, j2, j3, j4, j7⟩ := inzB gI
    have eE : clsH g = eoT 5 (mmS h1 1 1 0) := by unfold eoT; rw [eg]
    refine T0_c_town_2 _ _ _ _ _ _ _ ?_
    rw [j2]
    refine mmG_of beq1 (q_up f100B tmd.2.2.2.1 gI (pB_close gS (fun eI => ?_)))
    rw [eE] at eI ⊢
    obtain ⟨l0, l2, l3, l4, l7⟩ := inzB eI
    have eS : St 5 100 (eoT 5 (mmS h1 1 1 0)) := by
      rw [← eE]
      unfold clsH
      split
      · exact St_fr hv (fr_sk.tr fr_fl) (Sc_fl hv (Sc_sk hv gS.1)) gS
      · exact St_sk hv gS
    generalize hE : eoT 5 (mmS h1 1 1 0) = E at eI eE eS l0 l2 l3 l4 l7 ⊢
    rw [l2, l3]
    refine mmG_of beq1 (mmG_of beq1 ⟨fun c0 => ?_, fun c0 => ?_⟩)
    · refine mmG_of beq1 (qC_intro (T0_TownText_handOver_0 _ _ _ _ _ _ ?_))
      rw [mmS_cell (by omega), l4, l7]
      have sw := swapB eI
      refine mmG_of (by rw [ts86.1]; rfl) (q_up f100A tmd.2.2.2.2 sw (pA_begins ?_ ?_ (fun h2 hb hI3 => hy _ _ 5 ⟨h1, ho, Or.inr ⟨?_, ec.symm, ⟨h2, ?_, rfl⟩, rfl⟩⟩ ?_)))
      · rw [mmS_cell (by omega), mmS_cell (by omega)]; exact eS.2.2.1
      · rw [mmS_cell (by omega), mmS_cell (by omega)]; exact eS.2.2.2.1
      · rw [hE]; exact c0
      · rw [hE]; exact hb
      · have : tFu 5 = tFA := by unfold tFu; first | exact if_pos rfl | exact if_neg (by decide)
        rw [this]
        refine inv_put ?_ hI3
        cases q : tFA 1 7 with
        | none => rfl
        | some z => exact (i17 z q).elim
    · refine hy _ _ 46 ⟨h1, ho, Or.inl ⟨?_, rfl, ?_, rfl⟩⟩ ?_
      · rw [hE]; exact c0
      · rw [hE]
      · have : tFu 46 = tFB := by unfold tFu; first | exact if_pos rfl | exact if_neg (by decide)
        rw [this]; exact eI
  have key : ∀ (m n : Nat) (g : mmH), n + m = 80 → mmInv tFB g → St 5 n g → lpH 5 80 (mmS h1 1 1 0) = lpH 5 m g → cnH 5 80 (mmS h1 1 1 0) = (n : Int) + cnH 5 m g → qB tFN (d + 69) k_c_town (h 0 0) (h 0 1) Q 1 [(3, 1), (1, (n : Int)), (1, (n : Int))] [] g := by
    intro m
    induction m with
    | zero =>
      intro n g hn gI gS el ec
      refine T0_c_town_1 _ _ _ _ _ _ _ ⟨fun _ => b2 _ _ g el ?_ gI (St_mono (by omega) gS), fun c => absurd (by omega) c⟩
      rw [ec]; unfold cnH; omega
    | succ m ih =>
      intro n g hn gI gS el ec
      obtain ⟨j0, j2, -⟩ := inzB gI
      have el : lpH 5 80 (mmS h1 1 1 0) = (if skH g 3 0 = 0 ∧ skH g 3 4 < skH g 3 3 then lpH 5 m (stmF 5 (skH g)) else skH g) := el
      have ec : cnH 5 80 (mmS h1 1 1 0) = (n : Int) + (if skH g 3 0 = 0 ∧ skH g 3 4 < skH g 3 3 then 1 + cnH 5 m (stmF 5 (skH g)) else 0) := ec
      refine T0_c_town_1 _ _ _ _ _ _ _ ⟨fun c => absurd c (by omega), fun _ => ?_⟩
      rw [j2]
      refine mmG_of beq1 (q_up f100B tmd.2.1 gI (pB_goesOn gS (fun x hx sI => ⟨fun c => ?_, fun c => ?_⟩)))
      · rw [if_neg (hx.neg c)] at el ec
        exact b2 _ _ _ el (by omega) sI (St_mono (by omega) (St_sk hv gS))
      · rw [if_pos (hx.pos c)] at el ec
        obtain ⟨k0, k2, -⟩ := inzB sI
        rw [k2]
        have sS := St_sk hv gS
        refine mmG_of beq1 (q_up f100B tmd.2.2.1 sI (qC_le (d := d + 66) (by omega) (pB_readStatement (by omega) sS (fun tI => ?_))))
        rw [mAdd_ok (by omega) (by omega), show (n : Int) + 1 = ((n + 1 : Nat) : Int) by omega]
        exact ih (n + 1) _ (by omega) tI (by rw [show ((n + 1 : Nat) : Int) = (n : Int) + 1 by omega]; exact St_stm hv sS) el (by omega)
  exact key 80 0 _ (by omega) hI2 S0 rfl (by omega)
end TWB
