/-! ===== mm: what waits in a test ===== -/
section TE
variable {d e : Nat} {v n0 z0 s o b b' c k was : Int} {m g g' h h' : mmH} {Q : Int → mmH → Prop} {W P : List Int}
set_option maxRecDepth 100000 in
theorem q_m_hasSquare (hR : RW v n0 z0 s o b m g h W P) (hy : ∀ x, YN x (25 ∈ P ++ W) → Q x h) : qC tFM (d + 1) k_m_hasSquare [282] h Q := by
  have bd := RW_bd hR
  have k0 := hR.2.1.1
  obtain ⟨⟨a1, a2, a3⟩, ⟨a4, a5⟩, ⟨a6, a7⟩, ⟨a9, a10⟩, a11, ⟨a12, a13⟩, a14, a15⟩ := hR
  have el : ((P ++ W).length : Int) = (P.length : Int) + W.length := by rw [List.length_append]; omega
  have at_ : ∀ T : List Int, wst h T → ∀ i : Nat, i < T.length → h 323 (i : Int) = T.reverse.getD i 0 := by
    intro T
    induction T with
    | nil => intro _ i hi; exact absurd hi (by show ¬ i < 0; omega)
    | cons w T ih =>
      intro hw i hi
      rw [List.length_cons] at hi
      rw [List.reverse_cons, List.getD_eq_getElem?_getD]
      by_cases z : i < T.length
      · rw [List.getElem?_append_left (by rw [List.length_reverse]; exact z), ← List.getD_eq_getElem?_getD]
        exact ih hw.2 i z
      · have : i = T.length := by omega
        subst this
        rw [List.getElem?_append_right (by rw [List.length_reverse]; exact Nat.le_refl _), List.length_reverse, Nat.sub_self]
        exact hw.1
  have A := at_ _ a7
  generalize P ++ W = T at a6 a7 el hy A
  refine qC_intro ?_
  rw [k0.1, k0.2]
  refine T_m_hasSquare_0 _ _ _ _ _ ?_
  have key : ∀ (M i : Nat), T.length ≤ i + M → (∀ j : Nat, j < i → T.reverse.getD j 0 ≠ 25) → qB tFM d k_m_hasSquare n0 z0 Q 1 [(3, 282), (1, (i : Int))] [] h := by
    intro M
    induction M with
    | zero =>
      intro i h1 h2
      refine T_m_hasSquare_1 _ _ _ _ _ _ ⟨fun _ => hy 0 (YN.no (fun z => ?_)), fun q => absurd (show h 282 52 ≤ (i : Int) by omega) q⟩
      obtain ⟨j, hj, ej⟩ := List.getElem_of_mem (List.mem_reverse.mpr z)
      rw [List.length_reverse] at hj
      refine h2 j (by omega) ?_
      rw [List.getD_eq_getElem?_getD, List.getElem?_eq_getElem (by rw [List.length_reverse]; exact hj), ej]
      rfl
    | succ M ih =>
      intro i h1 h2
      refine T_m_hasSquare_1 _ _ _ _ _ _ ⟨fun q => hy 0 (YN.no (fun z => ?_)), fun q => ?_⟩
      · obtain ⟨j, hj, ej⟩ := List.getElem_of_mem (List.mem_reverse.mpr z)
        rw [List.length_reverse] at hj
        refine h2 j (by omega) ?_
        rw [List.getD_eq_getElem?_getD, List.getElem?_eq_getElem (by rw [List.length_reverse]; exact hj), ej]
        rfl
      · have hi : i < T.length := by omega
        have ai := A i hi
        rw [mmD_iff, ai, mAdd_ok (by omega) (by omega)]
        refine ⟨by omega, fun q2 => ?_, fun q2 => hy 1 (YN.yes ?_)⟩
        · have e1 : (i : Int) + 1 = ((i + 1 : Nat) : Int) := by omega
          rw [e1]
          exact ih (i + 1) (by omega) (fun j hj => by
            by_cases z : j = i
            · rw [z]; exact q2
            · exact h2 j (by omega))
        · have q3 : T.reverse.getD i 0 = 25 := Decidable.of_not_not q2
          have hi2 : i < T.reverse.length := by rw [List.length_reverse]; exact hi
          rw [List.getD_eq_getElem?_getD, List.getElem?_eq_getElem hi2] at q3
          exact List.mem_reverse.mp (by rw [← q3]; exact List.getElem_mem hi2)
  exact key T.length 0 (by omega) (fun j hj => absurd hj (by omega))
/-- and, or: what waits is dropped -/
theorem G_4 (hv : v = 5 ∨ v = 46) (hW : tp W ≠ 15) (hl : g (v + 33) 1 + W.length + 1 + s ≤ g 3 4) (hy : ∀ h', RW v n0 z0 s o b m g h' (15 :: W) [] → Q 1 h') : ∀ (P : List Int), (∀ p ∈ P, p = 15) → ∀ h, RW v n0 z0 s o b m g h W P → qB tFM (d + 2) k_m_goesOnTest n0 z0 Q 4 [(3, 282)] [] h
  | [], _, h, hR => by
    have bd := RW_bd hR
    refine T_m_goesOnTest_4 _ _ _ _ _ (q_m_isOn (by omega) hR (fun x y => ⟨fun _ => ?_, fun c => absurd (y.pos c) hW⟩))
    have a6 : h 282 52 = (W.length : Int) := hR.2.2.1.1
    rw [mmD_iff, mAdd_ok (by omega) (by omega)]
    exact ⟨by omega, hy _ (RW_push hR hl rfl)⟩
  | p :: P, hP, h, hR => by
    have hp := hP p (List.mem_cons_self ..)
    exact T_m_goesOnTest_4 _ _ _ _ _ (q_m_isOn (by omega) hR (fun x y => ⟨fun c => absurd hp (y.neg c), fun _ => q_m_drops hv hR (fun h' r => G_4 hv hW hl hy P (fun q hq => hP q (List.mem_cons_of_mem _ hq)) h' r)⟩))
theorem G_7 (hv : v = 5 ∨ v = 46) (hW : tp W ≠ 15 ∧ tp W ≠ 16) (hl : g (v + 33) 1 + W.length + 1 + s ≤ g 3 4) (hy : ∀ h', RW v n0 z0 s o b m g h' (16 :: W) [] → Q 1 h') : ∀ (P : List Int), (∀ p ∈ P, p = 15 ∨ p = 16) → ∀ h, RW v n0 z0 s o b m g h W P → qB tFM (d + 2) k_m_goesOnTest n0 z0 Q 7 [(3, 282)] [] h
  | [], _, h, hR => by
    have bd := RW_bd hR
    refine T_m_goesOnTest_7 _ _ _ _ _ (q_m_isOn (by omega) hR (fun x y => ⟨fun c => absurd (y.pos c) hW.1, fun _ => q_m_isOn (by omega) hR (fun x2 y2 => ⟨fun _ => ?_, fun c => absurd (y2.pos c) hW.2⟩)⟩))
    have a6 : h 282 52 = (W.length : Int) := hR.2.2.1.1
    rw [mmD_iff, mAdd_ok (by omega) (by omega)]
    exact ⟨by omega, hy _ (RW_push hR hl rfl)⟩
  | p :: P, hP, h, hR => by
    have hp := hP p (List.mem_cons_self ..)
    have ih := fun h' r => G_7 hv hW hl hy P (fun q hq => hP q (List.mem_cons_of_mem _ hq)) h' r
    refine T_m_goesOnTest_7 _ _ _ _ _ (q_m_isOn (by omega) hR (fun x y => ⟨fun _ => q_m_drops hv hR ih, fun c => q_m_isOn (by omega) hR (fun x2 y2 => ⟨fun c2 => absurd hp ?_, fun _ => q_m_drops hv hR ih⟩)⟩))
    have n1 : ¬ p = 15 := y.neg (by rcases y.b with z | z <;> omega)
    have n2 : ¬ p = 16 := y2.neg c2
    omega
/-! the states between a test's steps -/
def tQt (e : Nat) (n0 z0 : Int) (Q : Int → mmH → Prop) : Int → mmH → Prop := fun x h => (x = 0 → ∀ w2, qB tFM (e + 8) k_m_test n0 z0 Q 1 [(3, 282), (1, 0), (1, w2)] [] h) ∧ (¬ (x = 0) → ∀ w2, qB tFM (e + 8) k_m_test n0 z0 Q 1 [(3, 282), (1, 1), (1, w2)] [] h)
def tE (e : Nat) (n0 z0 : Int) (Q : Int → mmH → Prop) (h : mmH) : Prop := ∀ w2, qB tFM (e + 8) k_m_test n0 z0 Q 1 [(3, 282), (1, 1), w2] [] h
def tG (e : Nat) (n0 z0 : Int) (Q : Int → mmH → Prop) (h : mmH) : Prop := qB tFM (e + 7) k_m_goesOnTest n0 z0 (tQt e n0 z0 Q) 0 [(3, 282)] [] h
/-- a fact told: what waits for a NOT is dropped, then it goes on -/
def tD (e : Nat) (n0 z0 : Int) (Q : Int → mmH → Prop) (h : mmH) : Prop := ∀ Qx : Int → mmH → Prop, (∀ h', (h' 0 0 = n0 ∧ h' 0 1 = z0) → h' 282 5 = 0 → tG e n0 z0 Q h' → Qx 0 h') → qB tFM (e + 6) k_m_dropsNots n0 z0 Qx 0 [(3, 282)] [] h
theorem D_no (hR : RW v n0 z0 s o b m g h W []) (hW : tp W ≠ 17) (hy : tG e n0 z0 Q h) : tD e n0 z0 Q h := fun Qx hQ =>
  T_m_dropsNots_0 _ _ _ _ _ ⟨fun q => absurd (RW_5 hR) q, fun _ => q_m_isOn (d := e + 5) (by omega) hR (fun x y => ⟨fun _ => hQ _ hR.2.1.1 (RW_5 hR) hy, fun c => absurd (y.pos c) hW⟩)⟩
theorem RW_53 (hR : RW v n0 z0 s o b m g h W P) (h1 : h' = mmS h 282 53 b') : RW v n0 z0 s b' b m g h' W P := by
  subst h1
  obtain ⟨⟨a1, a2, a3⟩, ⟨a4, a5⟩, ⟨a6, a7⟩, ⟨a9, a10⟩, a11, ⟨a12, a13⟩, a14, a15⟩ := hR
  have z : ∀ k i, ¬ (k = 282 ∧ i = 53) → mmS h 282 53 b' k i = h k i := fun k i q => by
    by_cases e : k = 282
    · subst e; rw [mmS_slot, if_neg (by omega)]
    · rw [mmS_cell e]
  refine ⟨⟨a1, a2, RB_out a3 (fun k i q => z k i (by omega))⟩, ⟨⟨by rw [z 0 0 (by omega)]; exact a4.1, by rw [z 0 1 (by omega)]; exact a4.2⟩, a5.put (Or.inr (by omega))⟩, ⟨by rw [z 282 52 (by omega)]; exact a6, wst_congr _ (fun i _ _ => z 323 i (by omega)) a7⟩, ⟨by rw [mmS_slot, if_pos rfl], by rw [z 282 57 (by omega)]; exact a10⟩, a11, ⟨by rw [z 282 50 (by omega)]; exact a12, a13⟩, fun j j1 j2 => ?_, a15⟩
  rw [z 322 j (by omega)]
  exact a14 j j1 j2
theorem D_not (hv : v = 5 ∨ v = 46) (ho : 0 ≤ o ∧ o ≤ 6) (hR : RW v n0 z0 s (o + 1) b m g h (17 :: W) []) (hy : ∀ h', RW v n0 z0 s o b m (putT v 10225 g) h' W [] → tD e n0 z0 Q h') : tD e n0 z0 Q h := fun Qx hQ => by
  have a9 : h 282 53 = o + 1 := hR.2.2.2.1.1
  refine T_m_dropsNots_0 _ _ _ _ _ ⟨fun q => absurd (RW_5 hR) q, fun _ => q_m_isOn (d := e + 5) (by omega) hR (fun x y => ⟨fun c => absurd (show (17 : Int) = 17 from rfl) (y.neg c), fun _ => ?_⟩)⟩
  rw [a9, mSub_ok (by omega) (by omega), show o + 1 - 1 = o by omega]
  have R1 : RW v n0 z0 s o b m g (mmS h 282 53 o) (17 :: W) [] := RW_53 hR rfl
  exact q_m_drops hv (RW_owe (t := 10225) hv R1 rfl) (fun h' R => hy h' R Qx hQ)
end TE
