/-! ===== mm: what goes on behind an operand ===== -/
section S2
variable {d : Nat} {v n0 z0 s o b c k : Int} {m g g' h h' : mmH} {Q : Int → mmH → Prop} {W P : List Int}
set_option maxRecDepth 100000 in
theorem A_4no (hv : v = 5 ∨ v = 46) (hb : 0 ≤ b) (hk : skH g = g) (hR : RW v n0 z0 s o b m g h W P) (hn : hrV g ≠ 42 ∧ hrV g ≠ 47 ∧ hrV g ≠ 43 ∧ hrV g ≠ 45) (hm : mkT b (P ++ W) = k)
    (h1 : k = 21 ∨ k = 22 → ∀ h', RW v n0 z0 s o b m g h' W P → qB tFM (d + 4) k_m_goesOn n0 z0 Q 19 [(3, 282), (0, 0)] [] h')
    (h2 : k = -1 → ∀ h', RW v n0 z0 s o b m g h' W P → Q 0 h')
    (h3 : k ≠ 21 → k ≠ 22 → k ≠ -1 → ∀ h', BD v n0 z0 (1600 - s) m (flH 1 (g 3 4) g) h' → Q 0 h') : qB tFM (d + 4) k_m_goesOn n0 z0 Q 4 [(3, 282), (0, 0)] [] h := by
  refine T_m_goesOn_4 _ _ _ _ _ (w_takesSign hv (by omega) hR (fun h1' c1 _ R1 => ?_) (fun _ c1 => absurd (by rw [hk] at c1; exact c1) hn.1))
  rw [hk] at R1
  refine ⟨fun q => absurd rfl q, fun _ => w_takesSign hv (by omega) R1 (fun h2' _ _ R2 => ?_) (fun _ c1 => absurd (by rw [hk] at c1; exact c1) hn.2.1)⟩
  rw [hk] at R2
  refine ⟨fun _ => w_takesSign hv (by omega) R2 (fun h3' _ _ R3 => ?_) (fun _ c1 => absurd (by rw [hk] at c1; exact c1) hn.2.2.1), fun q => absurd rfl q⟩
  rw [hk] at R3
  refine ⟨fun q => absurd rfl q, fun _ => w_takesSign hv (by omega) R3 (fun h4' _ r4 R4 => ?_) (fun _ c1 => absurd (by rw [hk] at c1; exact c1) hn.2.2.2)⟩
  rw [hk] at R4 r4
  refine ⟨fun _ => q_m_mark hb R4 ?_, fun q => absurd rfl q⟩
  rw [hm]
  refine ⟨fun q => h1 (Or.inl q) _ R4, fun n21 => q_m_mark hb R4 ?_⟩
  rw [hm]
  refine ⟨fun n22 => q_m_mark hb R4 ?_, fun q => h1 (Or.inr (by omega)) _ R4⟩
  rw [hm]
  refine ⟨fun q => h2 q _ R4, fun q => ⟨fun q2 => absurd (RW_5 R4) q2, fun _ => ?_⟩⟩
  have e : h4' 282 2 = g 3 4 := (r4.2.2.2.2 R4.1.1).1
  rw [e]
  exact w_fail hv (by omega) R4 r4 (fun h' B => h3 n21 n22 q h' B)
set_option maxRecDepth 100000 in
theorem A_0 (hv : v = 5 ∨ v = 46) (hb : 0 ≤ b) (hR : RW v n0 z0 s o b m g h W P) (hm : mkT b (P ++ W) = k)
    (h1 : hrV (skH g) = 41 → k = 20 ∨ k = 23 ∨ k = 24 → ∀ h', RS True (skH g) h' → RW v n0 z0 s o b m (skH g) h' W P → qB tFM (d + 4) k_m_goesOn n0 z0 Q 1 [(3, 282), (0, 0)] [] h')
    (h2 : ¬ (hrV (skH g) = 41 ∧ (k = 20 ∨ k = 23 ∨ k = 24)) → ∀ h', RW v n0 z0 s o b m (skH g) h' W P → qB tFM (d + 4) k_m_goesOn n0 z0 Q 4 [(3, 282), (0, 0)] [] h') : qB tFM (d + 4) k_m_goesOn n0 z0 Q 0 [(3, 282), (0, 0)] [] h := by
  refine T_m_goesOn_0 _ _ _ _ _ ⟨fun q => absurd (RW_5 hR) q, fun _ => w_look hv hR (fun h1' r1 R1 => ⟨fun q => h2 (fun z => q z.1) _ R1, fun q => q_m_mark hb R1 ?_⟩)⟩
  have q : hrV (skH g) = 41 := by omega
  rw [hm]
  refine ⟨fun z => h1 q (Or.inl z) _ r1 R1, fun z1 => q_m_mark hb R1 ?_⟩
  rw [hm]
  refine ⟨fun z => h1 q (Or.inr (Or.inl z)) _ r1 R1, fun z2 => q_m_mark hb R1 ?_⟩
  rw [hm]
  exact ⟨fun z => h2 (fun y => by omega) _ R1, fun z => h1 q (by omega) _ r1 R1⟩
theorem op_c {x : Int} : (x = 42 → codeOf (10000 + x) = 3) ∧ (x = 47 → codeOf (10000 + x) = 4) ∧ (x = 43 → codeOf (10000 + x) = 1) ∧ (x = 45 → codeOf (10000 + x) = 2) := by
  refine ⟨fun e => ?_, fun e => ?_, fun e => ?_, fun e => ?_⟩ <;> rw [e] <;> rfl
set_option maxRecDepth 100000 in
theorem A_mul (hv : v = 5 ∨ v = 46) (hb : 0 ≤ b) (hR : RW v n0 z0 s o b m g h W P) (hP : ∀ p ∈ P, p = 3 ∨ p = 4) (hW : tp W ≠ 3 ∧ tp W ≠ 4) (hc : hrV (skH g) = 42 ∨ hrV (skH g) = 47) (hy : ∀ h', RW v n0 z0 s o b m (stpH (skH g)) h' (codeOf (10000 + hrV (skH g)) :: W) [] → Q 1 h') : qB tFM (d + 4) k_m_goesOn n0 z0 Q 0 [(3, 282), (0, 0)] [] h := by
  have hk : skH (skH g) = skH g := skd_id (skd_sk hR.1.2.1.2.1.2.1)
  have bd := RW_bd hR
  have sg := (skH_at hR.1.2.1).1
  have pk := (pl_sk hv hR.1.2.1 (by rw [skH_30]; exact hR.1.1)).2.2.1
  have fin : ∀ h', h' 282 2 = skH g 3 4 + 1 → h' 283 (skH g 3 4) = hrV (skH g) → RW v n0 z0 s o b m (stpH (skH g)) h' W P → qB tFM (d + 4) k_m_goesOn n0 z0 Q 5 [(3, 282), (0, 0)] [] h' := fun h' e2 e3 R => by
    have b2 := R.1.2.1.2.1
    have es : stpH (skH g) 3 4 = skH g 3 4 + 1 := by unfold stpH; rw [mmS_slot, if_pos rfl]
    have es2 : stpH (skH g) (v + 33) 1 = skH g (v + 33) 1 := by unfold stpH; rw [mmS_cell (by omega)]
    refine T_m_goesOn_5 _ _ _ _ _ ?_
    rw [mmD_iff, e2, mSub_ok (by omega) (by omega), show skH g 3 4 + 1 - 1 = skH g 3 4 by omega, e3]
    refine ⟨by omega, fun q => ?_, fun q => ?_⟩
    · have e : codeOf (10000 + hrV (skH g)) = 4 := op_c.2.1 (by omega)
      rw [e] at hy
      exact A_8 (d := d + 2) hv hW (by rw [es, es2]; omega) hy P hP _ R
    · have e : codeOf (10000 + hrV (skH g)) = 3 := op_c.1 (by omega)
      rw [e] at hy
      exact A_8 (d := d + 2) hv hW (by rw [es, es2]; omega) hy P hP _ R
  refine A_0 hv hb hR rfl (fun q => absurd q (by omega)) (fun _ h1 R1 => ?_)
  refine T_m_goesOn_4 _ _ _ _ _ (w_takesSign hv (by omega) R1 (fun h2 c1 _ R2 => ⟨fun q => absurd rfl q, fun _ => ?_⟩) (fun h2 c1 e2 e3 R2 => ⟨fun _ => ?_, fun q => absurd q (by omega)⟩))
  · rw [hk] at R2 c1
    refine w_takesSign hv (by omega) R2 (fun h3 c2 => absurd c2 (by rw [hk]; omega)) (fun h3 c2 e2 e3 R3 => ⟨fun q => absurd q (by omega), fun _ => ?_⟩)
    rw [hk] at c2 e2 e3 R3
    rw [← c2] at e3
    exact fin _ e2 e3 R3
  · rw [hk] at c1 e2 e3 R2
    rw [← c1] at e3
    exact fin _ e2 e3 R2
set_option maxRecDepth 100000 in
theorem A_add (hv : v = 5 ∨ v = 46) (hb : 0 ≤ b) (hR : RW v n0 z0 s o b m g h W P) (hP : ∀ p ∈ P, 1 ≤ p ∧ p ≤ 4) (hW : tp W ≠ 1 ∧ tp W ≠ 2 ∧ tp W ≠ 3 ∧ tp W ≠ 4) (hc : hrV (skH g) = 43 ∨ hrV (skH g) = 45) (hy : ∀ h', RW v n0 z0 s o b m (stpH (skH g)) h' (codeOf (10000 + hrV (skH g)) :: W) [] → Q 1 h') : qB tFM (d + 4) k_m_goesOn n0 z0 Q 0 [(3, 282), (0, 0)] [] h := by
  have hk : skH (skH g) = skH g := skd_id (skd_sk hR.1.2.1.2.1.2.1)
  have bd := RW_bd hR
  have sg := (skH_at hR.1.2.1).1
  have pk := (pl_sk hv hR.1.2.1 (by rw [skH_30]; exact hR.1.1)).2.2.1
  have fin : ∀ h', h' 282 2 = skH g 3 4 + 1 → h' 283 (skH g 3 4) = hrV (skH g) → RW v n0 z0 s o b m (stpH (skH g)) h' W P → qB tFM (d + 4) k_m_goesOn n0 z0 Q 12 [(3, 282), (0, 0)] [] h' := fun h' e2 e3 R => by
    have b2 := R.1.2.1.2.1
    have es : stpH (skH g) 3 4 = skH g 3 4 + 1 := by unfold stpH; rw [mmS_slot, if_pos rfl]
    have es2 : stpH (skH g) (v + 33) 1 = skH g (v + 33) 1 := by unfold stpH; rw [mmS_cell (by omega)]
    refine T_m_goesOn_12 _ _ _ _ _ ?_
    rw [mmD_iff, e2, mSub_ok (by omega) (by omega), show skH g 3 4 + 1 - 1 = skH g 3 4 by omega, e3]
    refine ⟨by omega, fun q => ?_, fun q => ?_⟩
    · have e : codeOf (10000 + hrV (skH g)) = 2 := op_c.2.2.2 (by omega)
      rw [e] at hy
      exact A_15 (d := d + 2) hv hW (by rw [es, es2]; omega) hy P hP _ R
    · have e : codeOf (10000 + hrV (skH g)) = 1 := op_c.2.2.1 (by omega)
      rw [e] at hy
      exact A_15 (d := d + 2) hv hW (by rw [es, es2]; omega) hy P hP _ R
  refine A_0 hv hb hR rfl (fun q => absurd q (by omega)) (fun _ h1 R1 => ?_)
  refine T_m_goesOn_4 _ _ _ _ _ (w_takesSign hv (by omega) R1 (fun h2 c1 _ R2 => ⟨fun q => absurd rfl q, fun _ => ?_⟩) (fun h2 c1 => absurd c1 (by rw [hk]; omega)))
  rw [hk] at R2
  refine w_takesSign hv (by omega) R2 (fun h3 c2 _ R3 => ⟨fun _ => ?_, fun q => absurd rfl q⟩) (fun h3 c2 => absurd c2 (by rw [hk]; omega))
  rw [hk] at R3
  refine w_takesSign hv (by omega) R3 (fun h4 c3 _ R4 => ⟨fun q => absurd rfl q, fun _ => ?_⟩) (fun h4 c3 e2 e3 R4 => ⟨fun _ => ?_, fun q => absurd q (by omega)⟩)
  · rw [hk] at R4 c3
    refine w_takesSign hv (by omega) R4 (fun h5 c2 => absurd c2 (by rw [hk]; omega)) (fun h5 c2 e2 e3 R5 => ⟨fun q => absurd q (by omega), fun _ => ?_⟩)
    rw [hk] at c2 e2 e3 R5
    rw [← c2] at e3
    exact fin _ e2 e3 R5
  · rw [hk] at c3 e2 e3 R4
    rw [← c3] at e3
    exact fin _ e2 e3 R4
/-- a mark popped -/
theorem RW_pop {w : Int} (hR : RW v n0 z0 s o b m g h (w :: W) []) (h1 : h' = mmS (mmS h 282 52 (h 282 52 - 1)) 282 53 (h 282 53 - 1)) : RW v n0 z0 s (o - 1) b m g h' W [] := by
  subst h1
  obtain ⟨⟨a1, a2, a3⟩, ⟨a4, a5⟩, ⟨a6, a7⟩, ⟨a9, a10⟩, a11, ⟨a12, a13⟩, a14, a15⟩ := hR
  rw [List.nil_append] at a6 a7
  rw [List.length_cons] at a6 a11
  have z : ∀ k i, ¬ (k = 282 ∧ (i = 52 ∨ i = 53)) → mmS (mmS h 282 52 (h 282 52 - 1)) 282 53 (h 282 53 - 1) k i = h k i := fun k i q => by
    by_cases e : k = 282
    · subst e; rw [mmS_slot, if_neg (by omega), mmS_slot, if_neg (by omega)]
    · rw [mmS_cell e, mmS_cell e]
  refine ⟨⟨a1, a2, RB_out a3 (fun k i q => z k i (by omega))⟩, ⟨⟨by rw [z 0 0 (by omega)]; exact a4.1, by rw [z 0 1 (by omega)]; exact a4.2⟩, (a5.put (Or.inr (by omega))).put (Or.inr (by omega))⟩, ⟨?_, wst_congr _ (fun i _ _ => z 323 i (by omega)) a7.2⟩, ⟨by rw [mmS_slot, if_pos rfl, a9], by rw [z 282 57 (by omega)]; exact a10⟩, ⟨by omega, a11.2⟩, ⟨by rw [z 282 50 (by omega)]; exact a12, a13⟩, fun j j1 j2 => ?_, a15⟩
  · rw [mmS_slot, if_neg (by omega), mmS_slot, if_pos rfl, a6]
    rw [List.nil_append]
    omega
  · rw [z 322 j (by omega)]
    exact a14 j j1 j2
/-- a mark changed -/
theorem RW_mark {w w' : Int} (hR : RW v n0 z0 s o b m g h (w :: W) []) (h1 : h' = mmS h 323 (h 282 52 - 1) w') : RW v n0 z0 s o b m g h' (w' :: W) [] := by
  subst h1
  obtain ⟨⟨a1, a2, a3⟩, ⟨a4, a5⟩, ⟨a6, a7⟩, ⟨a9, a10⟩, a11, ⟨a12, a13⟩, a14, a15⟩ := hR
  rw [List.nil_append] at a6 a7
  rw [List.length_cons] at a6
  have z : ∀ k i, ¬ (k = 323) → mmS h 323 (h 282 52 - 1) w' k i = h k i := fun k i q => mmS_cell q
  refine ⟨⟨a1, a2, RB_out a3 (fun k i q => z k i (by omega))⟩, ⟨⟨by rw [z 0 0 (by omega)]; exact a4.1, by rw [z 0 1 (by omega)]; exact a4.2⟩, a5.put (Or.inr (by omega))⟩, ⟨?_, ?_, ?_⟩, ⟨by rw [z 282 53 (by omega)]; exact a9, by rw [z 282 57 (by omega)]; exact a10⟩, a11, ⟨by rw [z 282 50 (by omega)]; exact a12, a13⟩, fun j j1 j2 => ?_, a15⟩
  · rw [z 282 52 (by omega), a6]; rfl
  · show mmS h 323 (h 282 52 - 1) w' 323 (W.length : Int) = w'
    rw [mmS_slot, if_pos (by omega)]
  · refine wst_congr _ (fun i i1 i2 => ?_) a7.2
    rw [mmS_slot, if_neg (by omega)]
  · rw [z 322 j (by omega)]
    exact a14 j j1 j2
set_option maxRecDepth 100000 in
theorem A_1 {w : Int} (hv : v = 5 ∨ v = 46) (hw : w = 20 ∨ w = 23 ∨ w = 24) (hb : b ≤ (W.length : Int)) (ho : 0 ≤ o ∧ o < 6) (hk : hrV g = 41) (hS : RS True g h) (hR : RW v n0 z0 s (o + 1) b m g h (w :: W) P) (hP : ∀ p ∈ P, p < 20)
    (hy : ∀ h', RW v n0 z0 s o b m (if w = 20 then stpH g else putT v (10204 + w) (stpH g)) h' W [] → qB tFM (d + 4) k_m_goesOn n0 z0 Q 0 [(3, 282), (0, 0)] [] h') : qB tFM (d + 4) k_m_goesOn n0 z0 Q 1 [(3, 282), (0, 0)] [] h := by
  have hl := hr_lt hk (by omega)
  have bd0 := RW_bd hR
  have S2 := Sc_stp hv hR.1.2.1 hl
  have ok2 : stpH g 3 0 = 0 := by unfold stpH; rw [mmS_slot, if_neg (by omega)]; exact hR.1.1
  have es : stpH g 3 4 = g 3 4 + 1 := by unfold stpH; rw [mmS_slot, if_pos rfl]
  have es2 : stpH g (v + 33) 1 = g (v + 33) 1 := by unfold stpH; rw [mmS_cell (by omega)]
  have e2 : h 282 2 = g 3 4 := (hS.2.2.2.2 hR.1.1).1
  refine T_m_goesOn_1 _ _ _ _ _ ?_
  rw [e2, mAdd_ok (by omega) (by omega)]
  have R1 : RW v n0 z0 s (o + 1) b m (stpH g) (mmS h 282 2 (g 3 4 + 1)) (w :: W) P := RW_scan hR ok2 S2 (RB_of S2 (RS_at hS)) (Fr.rf.put (by unfold MsK; omega)) (pl_stp hv)
  refine q_m_dropsToMark hv (by omega) hb R1 hP (fun h1 R2 => ?_)
  have bd := RW_bd R2
  rw [List.length_cons] at bd bd0
  have a6 : h1 282 52 = (W.length : Int) + 1 := by rw [R2.2.2.1.1]; show ((W.length + 1 : Nat) : Int) = _; omega
  have a9 : h1 282 53 = o + 1 := R2.2.2.2.1.1
  have w1 : h1 323 (W.length : Int) = w := R2.2.2.1.2.1
  have e1 : h1 323 (h1 282 52 - 1) = w := by rw [← w1, a6]; congr 1; omega
  rw [mmD_iff, mSub_ok (by omega) (by omega), e1, mSub_ok (by omega) (by omega)]
  have R3 := RW_pop R2 rfl
  rw [show o + 1 - 1 = o by omega] at R3
  refine ⟨by omega, fun q => hy _ (by rw [if_pos q]; exact R3), fun q => ?_⟩
  rw [mmD_iff]
  refine ⟨by omega, fun q2 => ?_, fun q2 => ?_⟩
  · refine q_m_code (t := 10204 + w) hv R3 (by rw [es, es2]; omega) (by rw [show w = 24 by omega]; rfl) (fun h' R => hy h' (by rw [if_neg q]; exact R))
  · refine q_m_code (t := 10204 + w) hv R3 (by rw [es, es2]; omega) (by rw [show w = 23 by omega]; rfl) (fun h' R => hy h' (by rw [if_neg q]; exact R))
set_option maxRecDepth 100000 in
theorem A_19 {w : Int} (hv : v = 5 ∨ v = 46) (hw : w = 21 ∨ w = 22) (hb : b ≤ (W.length : Int)) (hR : RW v n0 z0 s o b m g h (w :: W) P) (hP : ∀ p ∈ P, p < 20)
    (hy : ∀ h', tsH 44 g 3 0 = 0 → RW v n0 z0 s o b m (tsH 44 g) h' ((w + 2) :: W) [] → Q 1 h') (h2 : ∀ h', BD v n0 z0 (1600 - s) m (tsH 44 g) h' → Q 0 h') : qB tFM (d + 4) k_m_goesOn n0 z0 Q 19 [(3, 282), (0, 0)] [] h := by
  refine T_m_goesOn_19 _ _ _ _ _ (w_asksSign hv (by omega) hR (fun h1 ok R1 => ⟨fun _ => q_m_dropsToMark hv (by omega) hb R1 hP (fun h2' R2 => ?_), fun q => absurd (RW_5 R1) q⟩) (fun h1 B => ⟨fun q => absurd q (BD_5 B), fun _ => h2 _ B⟩))
  have bd := RW_bd R2
  rw [List.length_cons] at bd
  have a6 : h2' 282 52 = (W.length : Int) + 1 := by rw [R2.2.2.1.1]; show ((W.length + 1 : Nat) : Int) = _; omega
  have w1 : h2' 323 (W.length : Int) = w := R2.2.2.1.2.1
  have e1 : h2' 323 (h2' 282 52 - 1) = w := by rw [← w1, a6]; congr 1; omega
  rw [mmD_iff, mSub_ok (by omega) (by omega), mmD_iff, e1, mAdd_ok (by omega) (by omega)]
  exact ⟨by omega, by omega, hy _ ok (RW_mark R2 rfl)⟩
end S2
