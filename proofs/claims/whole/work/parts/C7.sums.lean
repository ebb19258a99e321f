/-! ===== mm: a sum, the class's way and the reference's ===== -/
def tp (W : List Int) : Int := W.headD 0
/-- the nearest mark above the base -/
def mkT (b : Int) : List Int → Int
  | [] => -1
  | w :: T => if (T.length : Int) < b then -1 else if 20 ≤ w ∧ w ≤ 24 then w else mkT b T
theorem mk_pass {b : Int} {W : List Int} : ∀ P : List Int, (∀ p ∈ P, p < 20) → b ≤ (W.length : Int) → mkT b (P ++ W) = mkT b W
  | [], _, _ => rfl
  | p :: P, h, hb => by
    have hp := h p (List.mem_cons_self ..)
    have el : ((P ++ W).length : Int) = (P.length : Int) + W.length := by rw [List.length_append]; omega
    show (if ((P ++ W).length : Int) < b then -1 else if 20 ≤ p ∧ p ≤ 24 then p else mkT b (P ++ W)) = _
    rw [if_neg (by omega), if_neg (by omega)]
    exact mk_pass P (fun q hq => h q (List.mem_cons_of_mem _ hq)) hb
theorem mk_top {b w : Int} {W : List Int} (hw : 20 ≤ w ∧ w ≤ 24) (hb : b ≤ (W.length : Int)) : mkT b (w :: W) = w := by
  show (if (W.length : Int) < b then -1 else if 20 ≤ w ∧ w ≤ 24 then w else mkT b W) = _
  rw [if_neg (by omega), if_pos hw]
theorem mk_none {b : Int} {W : List Int} (hb : (W.length : Int) ≤ b) : mkT b W = -1 := by
  cases W with
  | nil => rfl
  | cons w T =>
    rw [List.length_cons] at hb
    show (if (T.length : Int) < b then -1 else if 20 ≤ w ∧ w ≤ 24 then w else mkT b T) = _
    rw [if_pos (by omega)]
section SU
variable {d e : Nat} {v n0 z0 s o b c was : Int} {m g g' h h' : mmH} {Q : Int → mmH → Prop} {W P : List Int}
set_option maxRecDepth 100000 in
theorem q_m_isOn {a : Int} (ha : a ≠ 0) (hR : RW v n0 z0 s o b m g h W P) (hy : ∀ x, YN x (tp (P ++ W) = a) → Q x h) : qC tFM (d + 1) k_m_isOn [282, a] h Q := by
  have bd := RW_bd hR
  obtain ⟨⟨a1, a2, a3⟩, ⟨a4, a5⟩, ⟨a6, a7⟩, ⟨a9, a10⟩, a11, ⟨a12, a13⟩, a14, a15⟩ := hR
  have el : ((P ++ W).length : Int) = (P.length : Int) + W.length := by rw [List.length_append]; omega
  refine qC_intro (T_m_isOn_0 _ _ _ _ _ _ ⟨fun q => ?_, fun q => ?_⟩)
  · have : P ++ W = [] := List.eq_nil_of_length_eq_zero (by omega)
    refine hy 0 (YN.no ?_)
    rw [this]
    exact fun z => ha z.symm
  · generalize P ++ W = T at a6 a7 el hy
    cases T with
    | nil => rw [a6] at q; exact absurd q (by show ¬ ¬ ((0 : Nat) : Int) ≤ 0; omega)
    | cons w T =>
      rw [List.length_cons] at a6 el
      have w1 : h 323 (T.length : Int) = w := a7.1
      have e1 : h 323 (h 282 52 - 1) = w := by rw [← w1, a6]; congr 1; omega
      rw [mmD_iff, mSub_ok (by omega) (by omega), e1]
      exact ⟨by omega, fun z => hy 0 (YN.no z), fun z => hy 1 (YN.yes (by show w = a; omega))⟩
theorem q_m_isMark {a : Int} (hy : ∀ x, YN x (20 ≤ a ∧ a ≤ 24) → Q x h) : qC tFM (d + 1) k_m_isMark [282, a] h Q :=
  qC_intro (T_m_isMark_0 _ _ _ _ _ _ ⟨fun q => hy 0 (YN.no (by omega)), fun q => ⟨fun q2 => hy 0 (YN.no (by omega)), fun q2 => hy 1 (YN.yes (by omega))⟩⟩)
set_option maxRecDepth 100000 in
theorem q_m_mark (hb : 0 ≤ b) (hR : RW v n0 z0 s o b m g h W P) (hy : Q (mkT b (P ++ W)) h) : qC tFM (d + 2) k_m_mark [282] h Q := by
  have bd := RW_bd hR
  obtain ⟨⟨a1, a2, a3⟩, ⟨a4, a5⟩, ⟨a6, a7⟩, ⟨a9, a10⟩, a11, ⟨a12, a13⟩, a14, a15⟩ := hR
  have el : ((P ++ W).length : Int) = (P.length : Int) + W.length := by rw [List.length_append]; omega
  have key : ∀ T : List Int, wst h T → (T.length : Int) ≤ 1600 → Q (mkT b T) h → qB tFM (d + 1) k_m_mark (h 0 0) (h 0 1) Q 1 [(3, 282), (1, (T.length : Int) - 1)] [] h := by
    intro T
    induction T with
    | nil =>
      intro _ _ hy
      refine T_m_mark_1 _ _ _ _ _ _ ⟨fun _ => ⟨fun _ => hy, fun q => absurd ?_ q⟩, fun q => absurd ?_ q⟩ <;> rw [a10] <;> show ((0 : Nat) : Int) - 1 < b <;> omega
    | cons w T ih =>
      intro hw hl hy
      rw [List.length_cons] at hl ⊢
      obtain ⟨w1, w2⟩ := hw
      have e1 : ((T.length + 1 : Nat) : Int) - 1 = (T.length : Int) := by omega
      rw [e1]
      have hy : Q (if (T.length : Int) < b then -1 else if 20 ≤ w ∧ w ≤ 24 then w else mkT b T) h := hy
      refine T_m_mark_1 _ _ _ _ _ _ ⟨fun q => ⟨fun _ => ?_, fun q2 => absurd q q2⟩, fun q => ?_⟩
      · rw [a10] at q
        rw [if_pos q] at hy
        exact hy
      · rw [a10] at q
        rw [if_neg q] at hy
        rw [mmD_iff, w1]
        refine ⟨by omega, q_m_isMark (fun x y => ⟨fun c => ?_, fun c => ?_⟩)⟩
        · rw [if_pos (y.pos c)] at hy
          refine ⟨fun q2 => absurd (by rw [← a10]; exact q2) q, fun _ => ?_⟩
          rw [mmD_iff, w1]
          exact ⟨by omega, hy⟩
        · rw [if_neg (y.neg (by rcases y.b with z | z <;> omega))] at hy
          rw [mAdd_ok (by omega) (by omega), show (T.length : Int) + -1 = T.length - 1 by omega]
          exact ih w2 (by omega) hy
  refine qC_intro (T_m_mark_0 _ _ _ _ _ ?_)
  rw [a6, mSub_ok (by omega) (by omega)]
  exact key _ a7 (by omega) hy
set_option maxRecDepth 100000 in
theorem q_m_dropsToMark {w : Int} (hv : v = 5 ∨ v = 46) (hw : 20 ≤ w ∧ w ≤ 24) (hb : b ≤ (W.length : Int)) (hR : RW v n0 z0 s o b m g h (w :: W) P) (hP : ∀ p ∈ P, p < 20) (hy : ∀ h', RW v n0 z0 s o b m g h' (w :: W) [] → Q 0 h') : qC tFM (d + 3) k_m_dropsToMark [282] h Q := by
  refine qC_intro ?_
  have k0 := hR.2.1.1
  rw [k0.1, k0.2]
  have key : ∀ P : List Int, (∀ p ∈ P, p < 20) → ∀ h, RW v n0 z0 s o b m g h (w :: W) P → qB tFM (d + 2) k_m_dropsToMark n0 z0 Q 0 [(3, 282)] [] h := by
    intro P
    induction P with
    | nil =>
      intro _ h hR
      have hR' := hR
      have bd := RW_bd hR
      obtain ⟨⟨a1, a2, a3⟩, ⟨a4, a5⟩, ⟨a6, a7⟩, ⟨a9, a10⟩, a11, ⟨a12, a13⟩, a14, a15⟩ := hR
      have a6 : h 282 52 = (W.length : Int) + 1 := by rw [a6]; show ((W.length + 1 : Nat) : Int) = _; omega
      have w1 : h 323 (W.length : Int) = w := a7.1
      have e1 : h 323 (h 282 52 - 1) = w := by rw [← w1, a6]; congr 1; omega
      rw [List.length_cons] at bd
      refine T_m_dropsToMark_0 _ _ _ _ _ ⟨fun q => absurd q (by omega), fun q => ?_⟩
      rw [mmD_iff, mSub_ok (by omega) (by omega), e1]
      exact ⟨by omega, q_m_isMark (fun x y => ⟨fun _ => hy _ hR', fun c => absurd hw (y.neg (by rcases y.b with z | z <;> omega))⟩)⟩
    | cons p P ih =>
      intro hP h hR
      have hR' := hR
      have bd := RW_bd hR
      obtain ⟨⟨a1, a2, a3⟩, ⟨a4, a5⟩, ⟨a6, a7⟩, ⟨a9, a10⟩, a11, ⟨a12, a13⟩, a14, a15⟩ := hR
      have el : ((P ++ (w :: W)).length : Int) = (P.length : Int) + W.length + 1 := by rw [List.length_append, List.length_cons]; omega
      have a6 : h 282 52 = ((P ++ (w :: W)).length : Int) + 1 := by rw [a6]; show (((P ++ (w :: W)).length + 1 : Nat) : Int) = _; omega
      have w1 : h 323 ((P ++ (w :: W)).length : Int) = p := a7.1
      have e1 : h 323 (h 282 52 - 1) = p := by rw [← w1, a6]; congr 1; omega
      rw [List.length_cons, List.length_cons] at bd
      have hp := hP p (List.mem_cons_self ..)
      refine T_m_dropsToMark_0 _ _ _ _ _ ⟨fun q => absurd q (by omega), fun q => ?_⟩
      rw [mmD_iff, mSub_ok (by omega) (by omega), e1]
      refine ⟨by omega, q_m_isMark (fun x y => ⟨fun c => absurd (y.pos c) (by omega), fun _ => ?_⟩)⟩
      exact q_m_drops hv hR' (fun h' r => ih (fun q hq => hP q (List.mem_cons_of_mem _ hq)) h' r)
  exact key P hP h hR
set_option maxRecDepth 100000 in
theorem A_8 {v1 : Int} (hv : v = 5 ∨ v = 46) (hW : tp W ≠ 3 ∧ tp W ≠ 4) (hl : g (v + 33) 1 + W.length + 1 + s ≤ g 3 4) (hy : ∀ h', RW v n0 z0 s o b m g h' (v1 :: W) [] → Q 1 h') : ∀ (P : List Int), (∀ p ∈ P, p = 3 ∨ p = 4) → ∀ h, RW v n0 z0 s o b m g h W P → qB tFM (d + 2) k_m_goesOn n0 z0 Q 8 [(3, 282), (1, v1)] [] h
  | [], _, h, hR => by
    have bd := RW_bd hR
    refine T_m_goesOn_8 _ _ _ _ _ _ (q_m_isOn (by omega) hR (fun x y => ⟨fun c => absurd (y.pos c) hW.1, fun _ => q_m_isOn (by omega) hR (fun x2 y2 => ⟨fun _ => ?_, fun c => absurd (y2.pos c) hW.2⟩)⟩))
    have a6 : h 282 52 = (W.length : Int) := hR.2.2.1.1
    rw [mmD_iff, mAdd_ok (by omega) (by omega)]
    exact ⟨by omega, hy _ (RW_push hR hl rfl)⟩
  | p :: P, hP, h, hR => by
    have hp := hP p (List.mem_cons_self ..)
    have ih := fun h' r => A_8 hv hW hl hy P (fun q hq => hP q (List.mem_cons_of_mem _ hq)) h' r
    refine T_m_goesOn_8 _ _ _ _ _ _ (q_m_isOn (by omega) hR (fun x y => ⟨fun _ => q_m_drops hv hR ih, fun c => q_m_isOn (by omega) hR (fun x2 y2 => ⟨fun c2 => absurd hp ?_, fun _ => q_m_drops hv hR ih⟩)⟩))
    have n1 : ¬ p = 3 := y.neg (by rcases y.b with z | z <;> omega)
    have n2 : ¬ p = 4 := y2.neg c2
    omega
set_option maxRecDepth 100000 in
theorem A_15 {v1 : Int} (hv : v = 5 ∨ v = 46) (hW : tp W ≠ 1 ∧ tp W ≠ 2 ∧ tp W ≠ 3 ∧ tp W ≠ 4) (hl : g (v + 33) 1 + W.length + 1 + s ≤ g 3 4) (hy : ∀ h', RW v n0 z0 s o b m g h' (v1 :: W) [] → Q 1 h') : ∀ (P : List Int), (∀ p ∈ P, 1 ≤ p ∧ p ≤ 4) → ∀ h, RW v n0 z0 s o b m g h W P → qB tFM (d + 2) k_m_goesOn n0 z0 Q 15 [(3, 282), (1, v1)] [] h
  | [], _, h, hR => by
    have bd := RW_bd hR
    refine T_m_goesOn_15 _ _ _ _ _ _ (q_m_isOn (by omega) hR (fun x y => ⟨fun c => absurd (y.pos c) hW.2.2.1, fun _ => q_m_isOn (by omega) hR (fun x2 y2 => ⟨fun c => absurd (y2.pos c) hW.2.2.2, fun _ => q_m_isOn (by omega) hR (fun x3 y3 => ⟨fun c => absurd (y3.pos c) hW.1, fun _ => q_m_isOn (by omega) hR (fun x4 y4 => ⟨fun _ => ?_, fun c => absurd (y4.pos c) hW.2.1⟩)⟩)⟩)⟩))
    have a6 : h 282 52 = (W.length : Int) := hR.2.2.1.1
    rw [mmD_iff, mAdd_ok (by omega) (by omega)]
    exact ⟨by omega, hy _ (RW_push hR hl rfl)⟩
  | p :: P, hP, h, hR => by
    have hp := hP p (List.mem_cons_self ..)
    have ih := fun h' r => A_15 hv hW hl hy P (fun q hq => hP q (List.mem_cons_of_mem _ hq)) h' r
    refine T_m_goesOn_15 _ _ _ _ _ _ (q_m_isOn (by omega) hR (fun x y => ⟨fun _ => q_m_drops hv hR ih, fun c => q_m_isOn (by omega) hR (fun x2 y2 => ⟨fun _ => q_m_drops hv hR ih, fun c2 => q_m_isOn (by omega) hR (fun x3 y3 => ⟨fun _ => q_m_drops hv hR ih, fun c3 => q_m_isOn (by omega) hR (fun x4 y4 => ⟨fun c4 => absurd hp ?_, fun _ => q_m_drops hv hR ih⟩)⟩)⟩)⟩))
    have n1 : ¬ p = 3 := y.neg (by rcases y.b with z | z <;> omega)
    have n2 : ¬ p = 4 := y2.neg (by rcases y2.b with z | z <;> omega)
    have n3 : ¬ p = 1 := y3.neg (by rcases y3.b with z | z <;> omega)
    have n4 : ¬ p = 2 := y4.neg c4
    omega
end SU
