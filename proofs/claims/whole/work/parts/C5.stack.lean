/-! ===== mm: the reference's stack of what waits ===== -/
def wst (h : mmH) : List Int → Prop
  | [] => True
  | w :: W => h 323 (W.length : Int) = w ∧ wst h W
def RwK (k i : Int) : Prop := MsK k i ∨ (k = 322 ∧ i < 1600) ∨ k = 323 ∨ (k = 282 ∧ (i = 50 ∨ i = 52 ∨ i = 53 ∨ i = 57))
/-- like RS, but for blanks ahead -/
def RB (v : Int) (g h : mmH) : Prop := ∃ g0, Sc v g0 ∧ skH g0 = skH g ∧ RS True g0 h
/-- the class's tokens, the reference's codes and what waits: W below, P owed already -/
def RW (v n0 z0 s o b : Int) (m g h : mmH) (W P : List Int) : Prop :=
  (g 3 0 = 0 ∧ Sc v g ∧ RB v g h) ∧ ((h 0 0 = n0 ∧ h 0 1 = z0) ∧ Fr RwK m h) ∧ (h 282 52 = ((P ++ W).length : Int) ∧ wst h (P ++ W)) ∧ (h 282 53 = o ∧ h 282 57 = b) ∧ (g (v + 33) 1 + W.length + s ≤ g 3 4 ∧ 2 ≤ s) ∧ (h 282 50 = g (v + 33) 1 - P.length ∧ (P.length : Int) ≤ g (v + 33) 1) ∧
  (∀ j, 0 ≤ j → j < g (v + 33) 1 - P.length → h 322 j = codeOf (g (v + 38) j)) ∧ (∀ i : Nat, i < P.length → codeOf (g (v + 38) (g (v + 33) 1 - P.length + i)) = P.getD i 0)
theorem wst_congr {h h' : mmH} : ∀ T : List Int, (∀ i : Int, 0 ≤ i → i < T.length → h' 323 i = h 323 i) → wst h T → wst h' T
  | [], _, _ => trivial
  | w :: W, hh, hw => by
    obtain ⟨a, b⟩ := hw
    refine ⟨?_, wst_congr W (fun i i1 i2 => hh i i1 (by rw [List.length_cons]; omega)) b⟩
    rw [hh _ (by omega) (by rw [List.length_cons]; omega)]
    exact a
section ST
variable {d : Nat} {v n0 z0 s o b : Int} {m g g' h h' : mmH} {Q : Int → mmH → Prop} {W P : List Int}
theorem RB_ok (hB : RB v g h) (ok : g 3 0 = 0) : h 282 5 = 0 := by
  obtain ⟨g0, s0, e0, r0⟩ := hB
  rw [r0.1, ← skH_30 g0, e0, skH_30]
  exact ok
theorem RB_of (hS : Sc v g) (hR : RS True g h) : RB v g h := ⟨g, hS, rfl, hR⟩
theorem RB_sk (hv : v = 5 ∨ v = 46) (hS : Sc v g) (hB : RB v g h) : RB v (skH g) h := by
  obtain ⟨g0, s0, e0, r0⟩ := hB
  refine ⟨g0, s0, ?_, r0⟩
  rw [e0, skd_id (skd_sk hS.2.1.2.1)]
/-- after a scanning step -/
theorem RW_scan (hR : RW v n0 z0 s o b m g h W P) (ok : g' 3 0 = 0) (hS : Sc v g') (hB : RB v g' h') (hF : Fr MsK h h') (hp : Plain v g g') : RW v n0 z0 s o b m g' h' W P := by
  obtain ⟨⟨a1, a2, a3⟩, ⟨a4, a5⟩, ⟨a6, a7⟩, ⟨a9, a10⟩, a11, ⟨a12, a13⟩, a14, a15⟩ := hR
  obtain ⟨p0, p1, p2, p3⟩ := hp ok
  have f : ∀ k i, ¬ MsK k i → h' k i = h k i := hF
  have e3 : h' 322 = h 322 := funext fun i => f 322 i (by unfold MsK; omega)
  have e4 : h' 323 = h 323 := funext fun i => f 323 i (by unfold MsK; omega)
  refine ⟨⟨ok, hS, hB⟩, ⟨⟨?_, ?_⟩, a5.tr (hF.mono (fun k i q => Or.inl q))⟩, ⟨?_, ?_⟩, ⟨?_, ?_⟩, ⟨by omega, a11.2⟩, ⟨?_, by omega⟩, fun j j1 j2 => ?_, fun i hi => ?_⟩
  · rw [f 0 0 (by unfold MsK; omega)]; exact a4.1
  · rw [f 0 1 (by unfold MsK; omega)]; exact a4.2
  · rw [f 282 52 (by unfold MsK; omega)]; exact a6
  · exact wst_congr _ (fun i _ _ => by rw [e4]) a7
  · rw [f 282 53 (by unfold MsK; omega)]; exact a9
  · rw [f 282 57 (by unfold MsK; omega)]; exact a10
  · rw [f 282 50 (by unfold MsK; omega), p2]; exact a12
  · rw [e3, p3]; exact a14 j j1 (by omega)
  · rw [p2, p3]; exact a15 i hi
/-- RB under changes elsewhere in the reference -/
theorem RB_out (hB : RB v g h) (hG : ∀ k i, (k = 282 ∧ (i ≤ 6 ∨ i = 38)) ∨ k = 283 → h' k i = h k i) : RB v g h' := by
  obtain ⟨g0, s0, e0, r0⟩ := hB
  exact ⟨g0, s0, e0, RS_out r0 (fun _ _ _ => rfl) hG⟩
/-- what is owed is dropped -/
theorem RW_drop {p : Int} (hR : RW v n0 z0 s o b m g h W (p :: P)) : RW v n0 z0 s o b m g (mmS (mmS (mmS h 282 52 (h 282 52 - 1)) 322 (h 282 50) p) 282 50 (h 282 50 + 1)) W P := by
  obtain ⟨⟨a1, a2, a3⟩, ⟨a4, a5⟩, ⟨a6, a7⟩, ⟨a9, a10⟩, a11, ⟨a12, a13⟩, a14, a15⟩ := hR
  rw [List.cons_append, List.length_cons] at a6
  rw [List.length_cons] at a12 a13 a14 a15
  have b2 := a2.2.1
  have z : ∀ k i, ¬ (k = 322 ∨ (k = 282 ∧ (i = 50 ∨ i = 52))) → mmS (mmS (mmS h 282 52 (h 282 52 - 1)) 322 (h 282 50) p) 282 50 (h 282 50 + 1) k i = h k i := fun k i q => by
    by_cases e : k = 282
    · subst e; rw [mmS_slot, if_neg (by omega), mmS_cell (by omega), mmS_slot, if_neg (by omega)]
    · rw [mmS_cell e, mmS_cell (by omega), mmS_cell e]
  refine ⟨⟨a1, a2, RB_out a3 (fun k i q => z k i (by omega))⟩, ⟨⟨?_, ?_⟩, ((a5.put (Or.inr (by omega))).put (Or.inr (by omega))).put (Or.inr (by omega))⟩, ⟨?_, ?_⟩, ⟨?_, ?_⟩, a11, ⟨?_, by omega⟩, fun j j1 j2 => ?_, fun i hi => ?_⟩
  · rw [z 0 0 (by omega)]; exact a4.1
  · rw [z 0 1 (by omega)]; exact a4.2
  · rw [mmS_slot, if_neg (by omega), mmS_cell (by omega), mmS_slot, if_pos rfl, a6]; omega
  · exact wst_congr _ (fun i _ _ => z 323 i (by omega)) a7.2
  · rw [z 282 53 (by omega)]; exact a9
  · rw [z 282 57 (by omega)]; exact a10
  · rw [mmS_slot, if_pos rfl, a12]; omega
  · rw [mmS_cell (by omega), mmS_slot]
    by_cases e : j = h 282 50
    · rw [if_pos e, e, a12]
      have := a15 0 (by omega)
      rw [show g (v + 33) 1 - ((P.length + 1 : Nat) : Int) + ((0 : Nat) : Int) = g (v + 33) 1 - ((P.length + 1 : Nat) : Int) by omega] at this
      exact this.symm
    · rw [if_neg e, mmS_cell (by omega)]
      exact a14 j j1 (by omega)
  · have := a15 (i + 1) (by omega)
    rw [show g (v + 33) 1 - ((P.length + 1 : Nat) : Int) + ((i + 1 : Nat) : Int) = g (v + 33) 1 - (P.length : Int) + (i : Int) by omega] at this
    exact this
theorem q_m_drops {p : Int} (hv : v = 5 ∨ v = 46) (hR : RW v n0 z0 s o b m g h W (p :: P)) (hy : ∀ h', RW v n0 z0 s o b m g h' W P → Q 0 h') : qC tFM (d + 2) k_m_drops [282] h Q := by
  have h2 := hy _ (RW_drop hR)
  obtain ⟨⟨a1, a2, a3⟩, ⟨a4, a5⟩, ⟨a6, a7⟩, ⟨a9, a10⟩, a11, ⟨a12, a13⟩, a14, a15⟩ := hR
  rw [List.cons_append, List.length_cons] at a6
  rw [List.length_cons] at a12 a13
  have b2 := a2.2.1
  have l2 := a2.2.2.2.1
  have a7 : h 323 ((P ++ W).length : Int) = p := a7.1
  have el : ((P ++ W).length : Int) = (P.length : Int) + W.length := by rw [List.length_append]; omega
  refine qC_intro (T_m_drops_0 _ _ _ _ _ ?_)
  rw [mmD_iff, mSub_ok (by omega) (by omega)]
  have e : h 323 (h 282 52 - 1) = p := by rw [a6, show (((P ++ W).length + 1 : Nat) : Int) - 1 = ((P ++ W).length : Int) by omega]; exact a7
  rw [e]
  refine ⟨by omega, qC_intro (T_m_code_0 _ _ _ _ _ _ ?_)⟩
  rw [mmD_iff, mmS_slot, if_neg (by omega), mAdd_ok (a := 0) (by omega) (by omega), mAdd_ok (b := 1) (by omega) (by omega), show 0 + h 282 50 = h 282 50 by omega]
  exact ⟨by omega, h2⟩
/-- a token coded at once -/
theorem q_m_code {c t : Int} (hv : v = 5 ∨ v = 46) (hR : RW v n0 z0 s o b m g h W []) (hl : g (v + 33) 1 + 1 + W.length + s ≤ g 3 4) (hc : codeOf t = c) (hy : ∀ h', RW v n0 z0 s o b m (putT v t g) h' W [] → Q 0 h') : qC tFM (d + 1) k_m_code [282, c] h Q := by
  obtain ⟨⟨a1, a2, a3⟩, ⟨a4, a5⟩, ⟨a6, a7⟩, ⟨a9, a10⟩, a11, ⟨a12, a13⟩, a14, a15⟩ := id hR
  have b2 := a2.2.1
  have l2 := a2.2.2.2.1
  have a12 : h 282 50 = g (v + 33) 1 := by rw [a12]; show _ - ((0 : Nat) : Int) = _; omega
  obtain ⟨p1, p2, p3⟩ := put_in (t := t) hv (g := g) (by omega)
  refine qC_intro (T_m_code_0 _ _ _ _ _ _ ?_)
  rw [mmD_iff, mAdd_ok (a := 0) (by omega) (by omega), mAdd_ok (b := 1) (by omega) (by omega), show 0 + h 282 50 = h 282 50 by omega]
  refine ⟨by omega, hy _ ?_⟩
  have z : ∀ k i, ¬ (k = 322 ∨ (k = 282 ∧ i = 50)) → mmS (mmS h 322 (h 282 50) c) 282 50 (h 282 50 + 1) k i = h k i := fun k i q => by
    by_cases e : k = 282
    · subst e; rw [mmS_slot, if_neg (by omega), mmS_cell (by omega)]
    · rw [mmS_cell e, mmS_cell (by omega)]
  have B : RB v (putT v t g) (mmS (mmS h 322 (h 282 50) c) 282 50 (h 282 50 + 1)) := by
    obtain ⟨g0, s0, e0, r0⟩ := a3
    have c2 : ∀ k, k ≠ 3 → g0 k = g k := fun k q => by
      have := congrFun e0 k
      unfold skH at this
      rw [mmS_row q, mmS_row q] at this
      exact this
    have c3 : ∀ i, i ≠ 4 → g0 3 i = g 3 i := fun i q => by
      have := congrFun (congrFun e0 3) i
      unfold skH at this
      rw [mmS_slot, if_neg q, mmS_slot, if_neg q] at this
      exact this
    have pg : putT v t g0 3 = g0 3 ∧ putT v t g0 2 = g0 2 := by
      have l0 : g0 (v + 33) 1 < 1600 := by rw [c2 _ (by omega)]; omega
      refine ⟨(put_in (t := t) hv l0).2.2, ?_⟩
      unfold putT
      rw [if_pos l0, mmS_row (by omega), mmS_row (by omega)]
    have sc : Sc v (putT v t g0) := Sc_put hv s0
    refine ⟨putT v t g0, sc, ?_, RS_out r0 (fun k i q => ?_) (fun k i q => z k i (by omega))⟩
    · have pc : ∀ x : mmH, skH (putT v t x) = putT v t (skH x) := fun x => by
        unfold putT skH
        have e33 : mmS x 3 4 (runT isBk (x 2) (x 3 3) (x 3 4)) (v + 33) 1 = x (v + 33) 1 := mmS_cell (by omega)
        rw [e33]
        by_cases l : x (v + 33) 1 < 1600
        · rw [if_pos l, if_pos l]
          funext k i
          have r2 : mmS (mmS x (v + 38) (x (v + 33) 1) t) (v + 33) 1 (x (v + 33) 1 + 1) 2 = x 2 := by rw [mmS_row (by omega), mmS_row (by omega)]
          have r3 : mmS (mmS x (v + 38) (x (v + 33) 1) t) (v + 33) 1 (x (v + 33) 1 + 1) 3 = x 3 := by rw [mmS_row (by omega), mmS_row (by omega)]
          rw [r2, r3]
          unfold mmS
          by_cases q3 : k = 3
          · subst q3
            have n1 : ¬ (3 : Int) = v + 33 := by omega
            have n2 : ¬ (3 : Int) = v + 38 := by omega
            simp only [if_neg n1, if_neg n2, if_true]
          · rw [if_neg q3]
            by_cases q33 : k = v + 33
            · subst q33
              rw [if_pos rfl, if_pos rfl]
              by_cases qi : i = 1
              · rw [if_pos qi, if_pos qi]
              · rw [if_neg qi, if_neg qi, if_neg (by omega), if_neg (by omega), if_neg q3]
            · rw [if_neg q33, if_neg q33]
              by_cases q38 : k = v + 38
              · subst q38
                rw [if_pos rfl, if_pos rfl, if_neg q3]
              · rw [if_neg q38, if_neg q38, if_neg q3]
        · rw [if_neg l, if_neg l]
      rw [pc, pc, e0]
    · rcases q with ⟨q1, q2⟩ | q1
      · rw [q1, pg.1]
      · rw [q1, pg.2]
  refine ⟨⟨by rw [p3]; exact a1, Sc_put hv a2, B⟩, ⟨⟨?_, ?_⟩, (a5.put (Or.inr (by omega))).put (Or.inr (by omega))⟩, ⟨?_, ?_⟩, ⟨?_, ?_⟩, ⟨by rw [p1, p3]; omega, a11.2⟩, ⟨?_, by show (0 : Int) ≤ _; omega⟩, fun j j1 j2 => ?_, fun i hi => absurd hi (by show ¬ i < 0; omega)⟩
  · rw [z 0 0 (by omega)]; exact a4.1
  · rw [z 0 1 (by omega)]; exact a4.2
  · rw [z 282 52 (by omega)]; exact a6
  · exact wst_congr _ (fun i _ _ => z 323 i (by omega)) a7
  · rw [z 282 53 (by omega)]; exact a9
  · rw [z 282 57 (by omega)]; exact a10
  · rw [mmS_slot, if_pos rfl, a12, p1]; show _ = _ - ((0 : Nat) : Int); omega
  · have j2 : j < putT v t g (v + 33) 1 - ((0 : Nat) : Int) := j2
    rw [p1] at j2
    rw [mmS_cell (by omega), mmS_slot, p2]
    by_cases e : j = g (v + 33) 1
    · rw [if_pos (by omega), if_pos e, hc]
    · rw [if_neg (by omega), if_neg e]
      exact a14 j j1 (by show j < _ - ((0 : Nat) : Int); omega)
/-- an element more waits -/
theorem RW_push {w : Int} (hR : RW v n0 z0 s o b m g h W []) (hl : g (v + 33) 1 + W.length + 1 + s ≤ g 3 4) (h1 : h' = mmS (mmS h 323 (h 282 52) w) 282 52 (h 282 52 + 1)) : RW v n0 z0 s o b m g h' (w :: W) [] := by
  subst h1
  obtain ⟨⟨a1, a2, a3⟩, ⟨a4, a5⟩, ⟨a6, a7⟩, ⟨a9, a10⟩, a11, ⟨a12, a13⟩, a14, a15⟩ := hR
  rw [List.nil_append] at a6 a7
  have z : ∀ k i, ¬ (k = 323 ∨ (k = 282 ∧ i = 52)) → mmS (mmS h 323 (h 282 52) w) 282 52 (h 282 52 + 1) k i = h k i := fun k i q => by
    by_cases e : k = 282
    · subst e; rw [mmS_slot, if_neg (by omega), mmS_cell (by omega)]
    · rw [mmS_cell e, mmS_cell (by omega)]
  refine ⟨⟨a1, a2, RB_out a3 (fun k i q => z k i (by omega))⟩, ⟨⟨?_, ?_⟩, (a5.put (Or.inr (by omega))).put (Or.inr (by omega))⟩, ⟨?_, ⟨?_, ?_⟩⟩, ⟨?_, ?_⟩, ⟨?_, a11.2⟩, ⟨?_, a13⟩, fun j j1 j2 => ?_, a15⟩
  · rw [z 0 0 (by omega)]; exact a4.1
  · rw [z 0 1 (by omega)]; exact a4.2
  · rw [mmS_slot, if_pos rfl, a6]; rw [List.nil_append, List.length_cons]; omega
  · show mmS (mmS h 323 (h 282 52) w) 282 52 (h 282 52 + 1) 323 (W.length : Int) = w
    rw [mmS_cell (by omega), mmS_slot, if_pos a6.symm]
  · refine wst_congr _ (fun i i1 i2 => ?_) a7
    rw [mmS_cell (by omega), mmS_slot, if_neg (by omega)]
  · rw [z 282 53 (by omega)]; exact a9
  · rw [z 282 57 (by omega)]; exact a10
  · rw [List.length_cons]; omega
  · rw [z 282 50 (by omega)]; exact a12
  · rw [z 322 j (by omega)]; exact a14 j j1 j2
/-- a waiting operator becomes owed when its token is put -/
theorem RW_owe {w t : Int} (hv : v = 5 ∨ v = 46) (hR : RW v n0 z0 s o b m g h (w :: W) P) (hc : codeOf t = w) : RW v n0 z0 s o b m (putT v t g) h W (P ++ [w]) := by
  obtain ⟨⟨a1, a2, a3⟩, ⟨a4, a5⟩, ⟨a6, a7⟩, ⟨a9, a10⟩, a11, ⟨a12, a13⟩, a14, a15⟩ := hR
  have b2 := a2.2.1
  rw [List.length_cons] at a11
  obtain ⟨p1, p2, p3⟩ := put_in (t := t) hv (g := g) (by omega)
  have ea : P ++ [w] ++ W = P ++ (w :: W) := by rw [List.append_assoc]; rfl
  have el : ((P ++ [w]).length : Int) = (P.length : Int) + 1 := by rw [List.length_append]; show ((P.length + 1 : Nat) : Int) = _; omega
  have B : RB v (putT v t g) h := by
    obtain ⟨g0, s0, e0, r0⟩ := a3
    have c2 : ∀ k, k ≠ 3 → g0 k = g k := fun k q => by
      have := congrFun e0 k
      unfold skH at this
      rw [mmS_row q, mmS_row q] at this
      exact this
    have c3 : ∀ i, i ≠ 4 → g0 3 i = g 3 i := fun i q => by
      have := congrFun (congrFun e0 3) i
      unfold skH at this
      rw [mmS_slot, if_neg q, mmS_slot, if_neg q] at this
      exact this
    -- the elder place, the new tokens
    have gs : ∀ k, k ≠ 3 → mmS (putT v t g) 3 4 (g0 3 4) k = putT v t g k := fun k q => mmS_row q
    have e34 : mmS (putT v t g) 3 4 (g0 3 4) 3 = g0 3 := by
      funext i
      rw [mmS_slot]
      by_cases q : i = 4
      · rw [if_pos q, q]
      · rw [if_neg q, p3, c3 i q]
    have r2 : putT v t g 2 = g 2 := by
      unfold putT
      split
      · rw [mmS_row (by omega), mmS_row (by omega)]
      · rfl
    have sP := Sc_put (t := t) hv a2
    refine ⟨mmS (putT v t g) 3 4 (g0 3 4), Sc_at hv sP s0.2.1.1 (by rw [p3, ← c3 3 (by omega)]; exact s0.2.1.2.1), ?_, ?_⟩
    · unfold skH
      have q1 := congrFun (congrFun e0 3) 4
      unfold skH at q1
      rw [mmS_slot, if_pos rfl, mmS_slot, if_pos rfl] at q1
      rw [gs 2 (by omega), e34, r2, ← c2 2 (by omega), q1, mmS_mmS, p3, c2 2 (by omega)]
    · refine RS_out r0 (fun k i q => ?_) (fun _ _ _ => rfl)
      rcases q with ⟨q1, q2⟩ | q1
      · rw [q1, e34]
      · rw [q1, gs 2 (by omega), r2, c2 2 (by omega)]
  refine ⟨⟨by rw [p3]; exact a1, Sc_put hv a2, B⟩, ⟨a4, a5⟩, ⟨by rw [ea]; exact a6, by rw [ea]; exact a7⟩, ⟨a9, a10⟩, ⟨by rw [p1, p3]; omega, a11.2⟩, ⟨by rw [p1, el, a12]; omega, by rw [p1, el]; omega⟩, fun j j1 j2 => ?_, fun i hi => ?_⟩
  · rw [p1, el] at j2
    rw [p2, if_neg (by omega)]
    exact a14 j j1 (by omega)
  · rw [p1, el, p2]
    have hi2 : i < P.length + 1 := by rw [List.length_append] at hi; exact hi
    by_cases e : i = P.length
    · rw [if_pos (by omega), hc, e]
      rw [List.getD_eq_getElem?_getD, List.getElem?_append_right (Nat.le_refl _), Nat.sub_self]
      rfl
    · rw [if_neg (by omega), show g (v + 33) 1 + 1 - ((P.length : Int) + 1) + (i : Int) = g (v + 33) 1 - (P.length : Int) + (i : Int) by omega, a15 i (by omega)]
      rw [List.getD_eq_getElem?_getD, List.getD_eq_getElem?_getD, List.getElem?_append_left (by omega)]
end ST
