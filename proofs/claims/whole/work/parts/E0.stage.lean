/-! ===== mm: a town while it is told: what the class holds against what the reference stages ===== -/
def zNum (v : Int) (g h : mmH) : Prop :=
  (h 313 0 = g v 0 ∧ h 313 1 = g v 1 ∧ h 313 2 = g v 3 ∧ h 313 3 = g v 2 ∧ h 313 4 = g (v + 33) 0) ∧
  ((0 ≤ g v 0 ∧ g v 0 ≤ 5) ∧ (0 ≤ g v 1 ∧ g v 1 ≤ 10) ∧ (0 ≤ g v 3 ∧ g v 3 ≤ 6) ∧ (0 ≤ g v 2 ∧ g v 2 ≤ 20) ∧ (0 ≤ g (v + 33) 0 ∧ g (v + 33) 0 ≤ 8)) ∧
  (1 ≤ g v 4 ∧ g v 4 ≤ 20) ∧ (0 ≤ g v 5 ∧ g v 5 ≤ 100) ∧ h 319 0 = g v 5 ∧ h 318 0 = g v 4
def zLot (v : Int) (g h : mmH) : Prop := ∀ l, 0 ≤ l → l < g v 1 →
  (h 315 (5 * l) = g (v + 5 + l) 0 ∧ 0 ≤ g (v + 5 + l) 0 ∧ g (v + 5 + l) 0 < g v 0) ∧ (h 315 (5 * l + 1) = g (v + 5 + l) 1 ∧ 0 ≤ g (v + 5 + l) 1 ∧ g (v + 5 + l) 1 ≤ 20) ∧
  (h 315 (5 * l + 2) = g (v + 5 + l) 2 ∧ 0 ≤ g (v + 5 + l) 2 ∧ g (v + 5 + l) 2 ≤ 30) ∧ (h 315 (5 * l + 3) = g (v + 5 + l) 3 ∧ 0 ≤ g (v + 5 + l) 3 ∧ g (v + 5 + l) 3 ≤ 9) ∧
  (h 315 (5 * l + 4) = g (v + 5 + l) 4 ∧ 0 ≤ g (v + 5 + l) 4 ∧ g (v + 5 + l) 4 ≤ 1)
def zPer (v : Int) (g h : mmH) : Prop := ∀ p, 0 ≤ p → p < g v 3 → (∀ c, 0 ≤ c → c < 6 → h 317 (6 * p + c) = g (v + 16 + p) c) ∧
  (1 ≤ g (v + 16 + p) 0 ∧ g (v + 16 + p) 0 ≤ 99) ∧ (0 ≤ g (v + 16 + p) 1 ∧ g (v + 16 + p) 1 ≤ 9) ∧ (0 ≤ g (v + 16 + p) 2 ∧ g (v + 16 + p) 2 ≤ 20) ∧ (0 ≤ g (v + 16 + p) 3 ∧ g (v + 16 + p) 3 ≤ 9) ∧
  (0 ≤ g (v + 16 + p) 4 ∧ g (v + 16 + p) 4 < g v 1) ∧ (0 ≤ g (v + 16 + p) 5 ∧ g (v + 16 + p) 5 < g v 1) ∧ g (v + 16 + p) 4 ≠ g (v + 16 + p) 5
def zGap (v : Int) (g h : mmH) : Prop := (∀ a b, 0 ≤ a → a < g v 1 → 0 ≤ b → b < g v 1 → h 316 (10 * a + b) = g (v + 23 + a) b + 1 ∧ -1 ≤ g (v + 23 + a) b ∧ g (v + 23 + a) b ≤ 9) ∧
  ∀ a b, 0 ≤ a → a < 10 → 0 ≤ b → b < 10 → (g v 1 ≤ a ∨ g v 1 ≤ b) → g (v + 23 + a) b = -1
def zName (v : Int) (g h : mmH) : Prop := (∀ k, 0 ≤ k → k < g v 0 → nmR (g (v + 1) k) (h 314 k)) ∧ (∀ k, 0 ≤ k → k < g v 1 → nmR (g (v + 2) k) (h 314 (10 + k))) ∧ (∀ k, 0 ≤ k → k < g v 3 → nmR (g (v + 3) k) (h 314 (20 + k)))
def zLaw (v : Int) (g h : mmH) : Prop := (∀ k, 0 ≤ k → k < g (v + 33) 0 →
  h 320 k = g (v + 34) k ∧ (h 321 k = 0 ∨ h 321 k = 1) ∧ (h 321 k = 1 ↔ g (v + 35) k = g (v + 36) k) ∧
  h 324 k = g (v + 35) k ∧ h 325 k = g (v + 36) k ∧ h 326 k = g (v + 37) k ∧
  (0 ≤ g (v + 35) k ∧ g (v + 35) k ≤ g (v + 36) k ∧ g (v + 36) k ≤ g (v + 37) k ∧ g (v + 37) k ≤ g (v + 33) 1) ∧
  chkR (g (v + 38)) (g (v + 37) k - g (v + 36) k).toNat (g (v + 36) k) [] = some [true] ∧
  (g (v + 35) k = g (v + 36) k ∨ chkR (g (v + 38)) (g (v + 36) k - g (v + 35) k).toNat (g (v + 35) k) [] = some [false])) ∧
  h 282 50 = g (v + 33) 1 ∧ ∀ j, 0 ≤ j → j < g (v + 33) 1 → h 322 j = codeOf (g (v + 38) j)
def Tz (v : Int) (g h : mmH) : Prop := zNum v g h ∧ zLot v g h ∧ zPer v g h ∧ zGap v g h ∧ zName v g h ∧ zLaw v g h
/-- only the scanner's row differs -/
def R3 (g g' : mmH) : Prop := ∀ k, k ≠ 3 → g' k = g k
section SG
variable {v : Int} {g g' g'' h h' m : mmH}
theorem R3.rf : R3 g g := fun _ _ => rfl
theorem R3.tr (a : R3 g g') (b : R3 g' g'') : R3 g g'' := fun k q => by rw [b k q, a k q]
theorem R3.put {i x : Int} (a : R3 g g') : R3 g (mmS g' 3 i x) := fun k q => by rw [mmS_row q, a k q]
theorem r3_sk : R3 g (skH g) := R3.rf.put
theorem r3_ps : R3 g (psH g) := R3.rf.put.put
theorem r3_stp : R3 g (stpH g) := R3.rf.put
theorem r3_fl {w p : Int} : R3 g (flH w p g) := by
  unfold flH
  split
  · exact R3.rf
  · exact R3.rf.put.put
theorem r3_tw {w : Int} : R3 g (twH w g) := by
  unfold twH
  split
  · exact r3_sk.tr r3_ps
  · exact r3_sk.tr r3_fl
theorem r3_ts {w : Int} : R3 g (tsH w g) := by
  unfold tsH
  split
  · exact r3_sk.tr r3_stp
  · exact r3_sk.tr r3_fl
theorem r3_nuT : R3 g (nuT g) := R3.rf.put.put
theorem r3_nu {lo hi : Int} : R3 g (nuH lo hi g) := by
  unfold nuH nuF
  split
  · exact (r3_sk.tr r3_nuT).tr r3_fl
  · split
    · exact (r3_sk.tr r3_nuT).tr r3_fl
    · split
      · exact (r3_sk.tr r3_nuT).tr r3_fl
      · exact r3_sk.tr r3_nuT
theorem r3_nm : R3 g (nmH g) := by
  have h0 : R3 g (nmS g) := r3_sk.put
  unfold nmH nmF
  split
  · exact h0.tr r3_ps
  · split
    · exact h0.tr r3_fl
    · split <;> exact h0.tr r3_fl
theorem r3_rf {b : Bool} : R3 g (rfH b g) := by
  unfold rfH
  split
  · exact r3_fl
  · exact R3.rf
theorem r3_newN : R3 g (newN v g) := r3_nm.tr r3_rf
theorem r3_ob : R3 g (obH v g) := r3_nm.tr r3_rf
theorem r3_lb : R3 g (lbH v g) := r3_nm.tr r3_rf
theorem r3_beg {n k : Int} : R3 g (begH n k g) := by
  unfold begH
  split
  · exact r3_ps
  · exact r3_fl.tr r3_ps
theorem Tz_fr (hv : v = 5 ∨ v = 46) (hF : R3 g g') (q : ∀ k, k ≠ 282 → h' k = h k) (q5 : h' 282 50 = h 282 50) (hT : Tz v g h) : Tz v g' h' := by
  obtain ⟨t1, t2, t3, t4, t5, t6⟩ := hT
  have e0 := hF v (by omega)
  have e33 := hF (v + 33) (by omega)
  have e1 := hF (v + 1) (by omega)
  have e2 := hF (v + 2) (by omega)
  have e3 := hF (v + 3) (by omega)
  have e34 := hF (v + 34) (by omega)
  have e35 := hF (v + 35) (by omega)
  have e36 := hF (v + 36) (by omega)
  have e37 := hF (v + 37) (by omega)
  have e38 := hF (v + 38) (by omega)
  refine ⟨?_, ?_, ?_, ?_, ?_, ?_⟩
  · unfold zNum
    rw [e0, e33, q 313 (by omega), q 319 (by omega), q 318 (by omega)]
    exact t1
  · intro l l1 l2
    rw [e0] at l2 ⊢
    rw [hF (v + 5 + l) (by omega), q 315 (by omega)]
    exact t2 l l1 l2
  · intro l l1 l2
    rw [e0] at l2 ⊢
    rw [hF (v + 16 + l) (by omega), q 317 (by omega)]
    exact t3 l l1 l2
  · refine ⟨fun a b a1 a2 b1 b2 => ?_, fun a b a1 a2 b1 b2 c => ?_⟩
    · rw [e0] at a2 b2
      rw [hF (v + 23 + a) (by omega), q 316 (by omega)]
      exact t4.1 a b a1 a2 b1 b2
    · rw [e0] at c
      rw [hF (v + 23 + a) (by omega)]
      exact t4.2 a b a1 a2 b1 b2 c
  · unfold zName
    rw [e0, e1, e2, e3, q 314 (by omega)]
    exact t5
  · unfold zLaw
    rw [e33, e34, e35, e36, e37, e38, q 320 (by omega), q 321 (by omega), q 322 (by omega), q 324 (by omega), q 325 (by omega), q 326 (by omega), q5]
    exact t6
theorem Tz_sc (hv : v = 5 ∨ v = 46) (hF : R3 g g') (hG : Fr MsK h h') (hT : Tz v g h) : Tz v g' h' :=
  Tz_fr hv hF (fun k q => funext fun i => hG k i (by unfold MsK; omega)) (hG 282 50 (by unfold MsK; omega)) hT
theorem Tz_Nc (hT : Tz v g h) : Nc v g h := by
  obtain ⟨⟨⟨a0, a1, a2, a3, a4⟩, ⟨b0, b1, b2, b3, b4⟩, -⟩, -, -, -, ⟨n1, n2, n3⟩, -⟩ := hT
  exact ⟨⟨a0, b0⟩, ⟨a1, b1⟩, ⟨a2, b2⟩, n1, n2, n3⟩
end SG
