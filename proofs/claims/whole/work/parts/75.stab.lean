/-! ===== mm: what the two sides have in common stays where only the rest is written ===== -/
section ST
variable {u v : Int} {g g' h h' : mmH}
theorem cNum_C (huv : (u = 5 ∧ v = 46) ∨ (u = 46 ∧ v = 5)) (hF : Fr (ScC v) g g') (hc : cNum u 1 g h) : cNum u 1 g' h := by
  have f : ∀ k i, ¬ ScC v k i → g' k i = g k i := hF
  unfold cNum at hc ⊢
  rw [f u 0 (by unfold ScC; omega), f u 1 (by unfold ScC; omega), f u 2 (by unfold ScC; omega), f u 3 (by unfold ScC; omega), f u 4 (by unfold ScC; omega), f u 5 (by unfold ScC; omega), f (u + 33) 0 (by unfold ScC; omega)]
  exact hc
theorem Tn_frC (huv : (u = 5 ∧ v = 46) ∨ (u = 46 ∧ v = 5)) (hF : Fr (ScC v) g g') (hc : Tn u 1 g h) : Tn u 1 g' h := by
  obtain ⟨c1, c2, c3, c4, c5, c6⟩ := hc
  have f : ∀ k i, ¬ ScC v k i → g' k i = g k i := hF
  have n := c1.2.1
  have e0 := f u 0 (by unfold ScC; omega)
  have e1 := f u 1 (by unfold ScC; omega)
  have e3 := f u 3 (by unfold ScC; omega)
  refine ⟨cNum_C huv hF c1, fun l l1 l2 => ?_, fun l l1 l2 => ?_, fun a b a1 a2 b1 b2 => ?_, ?_, fun k k1 k2 => ?_⟩
  · rw [e1] at l2
    have e : g' (u + 5 + l) = g (u + 5 + l) := funext fun i => f _ _ (by unfold ScC; omega)
    rw [e, e0]
    exact c2 l l1 l2
  · rw [e3] at l2
    have e : g' (u + 16 + l) = g (u + 16 + l) := funext fun i => f _ _ (by unfold ScC; omega)
    rw [e, e1]
    exact c3 l l1 l2
  · rw [e1] at a2 b2
    have e : g' (u + 23 + a) = g (u + 23 + a) := funext fun i => f _ _ (by unfold ScC; omega)
    rw [e]
    exact c4 a b a1 a2 b1 b2
  · unfold cName
    have e11 : g' (u + 1) = g (u + 1) := funext fun i => f _ _ (by unfold ScC; omega)
    have e12 : g' (u + 2) = g (u + 2) := funext fun i => f _ _ (by unfold ScC; omega)
    have e13 : g' (u + 3) = g (u + 3) := funext fun i => f _ _ (by unfold ScC; omega)
    rw [e0, e1, e3, e11, e12, e13]
    exact c5
  · have e34 : g' (u + 34) = g (u + 34) := funext fun i => f _ _ (by unfold ScC; omega)
    have e35 : g' (u + 35) = g (u + 35) := funext fun i => f _ _ (by unfold ScC; omega)
    have e36 : g' (u + 36) = g (u + 36) := funext fun i => f _ _ (by unfold ScC; omega)
    have e37 : g' (u + 37) = g (u + 37) := funext fun i => f _ _ (by unfold ScC; omega)
    have e38 : g' (u + 38) = g (u + 38) := funext fun i => f _ _ (by unfold ScC; omega)
    rw [f (u + 33) 0 (by unfold ScC; omega)] at k2
    rw [e34, e35, e36, e37, e38]
    exact c6 k k1 k2
/-- the reference's cells that tell the town -/
def TnM (k i : Int) : Prop := (k = 313 ∧ 5 ≤ i) ∨ (k = 314 ∧ 30 ≤ i) ∨ (k = 315 ∧ 50 ≤ i) ∨ (k = 316 ∧ 100 ≤ i) ∨ (k = 317 ∧ 36 ≤ i) ∨ ((k = 318 ∨ k = 319) ∧ 1 ≤ i) ∨ ((k = 320 ∨ k = 321 ∨ k = 324 ∨ k = 325 ∨ k = 326) ∧ 8 ≤ i) ∨ (k = 322 ∧ 1600 ≤ i)
theorem Tn_frM (f : ∀ k i, TnM k i → h' k i = h k i) (hc : Tn u 1 g h) : Tn u 1 g h' := by
  obtain ⟨c1, c2, c3, c4, c5, c6⟩ := hc
  refine ⟨?_, fun l l1 l2 => ?_, fun l l1 l2 => ?_, fun a b a1 a2 b1 b2 => ?_, ⟨fun k k1 k2 => ?_, fun k k1 k2 => ?_, fun k k1 k2 => ?_⟩, fun k k1 k2 => ?_⟩
  · unfold cNum at c1 ⊢
    rw [f 313 (5 * 1) (by unfold TnM; omega), f 313 (5 * 1 + 1) (by unfold TnM; omega), f 313 (5 * 1 + 2) (by unfold TnM; omega), f 313 (5 * 1 + 3) (by unfold TnM; omega), f 313 (5 * 1 + 4) (by unfold TnM; omega), f 319 1 (by unfold TnM; omega), f 318 1 (by unfold TnM; omega)]
    exact c1
  · rw [f 315 (50 * 1 + 5 * l) (by unfold TnM; omega), f 315 (50 * 1 + 5 * l + 1) (by unfold TnM; omega), f 315 (50 * 1 + 5 * l + 2) (by unfold TnM; omega), f 315 (50 * 1 + 5 * l + 3) (by unfold TnM; omega), f 315 (50 * 1 + 5 * l + 4) (by unfold TnM; omega)]
    exact c2 l l1 l2
  · refine ⟨fun c q1 q2 => ?_, (c3 l l1 l2).2⟩
    rw [f 317 (36 * 1 + 6 * l + c) (by unfold TnM; omega)]
    exact (c3 l l1 l2).1 c q1 q2
  · rw [f 316 (100 * 1 + 10 * a + b) (by unfold TnM; omega)]
    exact c4 a b a1 a2 b1 b2
  · rw [f 314 _ (by unfold TnM; omega)]; exact c5.1 k k1 k2
  · rw [f 314 _ (by unfold TnM; omega)]; exact c5.2.1 k k1 k2
  · rw [f 314 _ (by unfold TnM; omega)]; exact c5.2.2 k k1 k2
  · obtain ⟨d1, d2, d3, d4, d5, d6, d7, d8, d9, d10⟩ := c6 k k1 k2
    rw [f 320 _ (by unfold TnM; omega), f 321 _ (by unfold TnM; omega), f 324 _ (by unfold TnM; omega), f 325 _ (by unfold TnM; omega), f 326 _ (by unfold TnM; omega)]
    refine ⟨d1, d2, d3, d4, d5, d6, d7, d8, d9, fun j j1 j2 => ?_⟩
    rw [f 322 _ (by unfold TnM; omega)]
    exact d10 j j1 j2
/-- the cells that Nw reads -/
theorem Nw_eq {c m o : Int} (e1 : g' u 0 = g u 0) (e2 : g' u 1 = g u 1) (e3 : g' u 3 = g u 3) (em : h' m = h m) (ec : ∀ k, c ≤ k → k ≤ c + 8 → g' k = g k) (hc : Nw c m o u g h) : Nw c m o u g' h' := by
  unfold Nw at hc ⊢
  rw [em, e1, e2, e3, ec c (by omega) (by omega), ec (c + 1) (by omega) (by omega), ec (c + 2) (by omega) (by omega), ec (c + 3) (by omega) (by omega), ec (c + 4) (by omega) (by omega), ec (c + 6) (by omega) (by omega), ec (c + 7) (by omega) (by omega), ec (c + 8) (by omega) (by omega)]
  exact hc
theorem Cp_frC (hv : v = 51 - u) (hF : Fr (ScC v) g g') (hI : mmInv (tFu u) g') (hc : Cp u g h) : Cp u g' h := by
  have f : ∀ k i, ¬ ScC v k i → g' k i = g k i := hF
  have fk : ∀ k, (∀ i, ¬ ScC v k i) → g' k = g k := fun k q => funext fun i => f k i (q i)
  obtain ⟨hu, ⟨-, hM⟩, cT, cN, cP, cTp, cS, cSh, cF, cO⟩ := hc
  have huv : (u = 5 ∧ v = 46) ∨ (u = 46 ∧ v = 5) := by omega
  have e0 := f u 0 (by unfold ScC; omega)
  have e1 := f u 1 (by unfold ScC; omega)
  have e3 := f u 3 (by unfold ScC; omega)
  have c1 := fk 1 (fun i => by unfold ScC; omega)
  refine ⟨hu, ⟨hI, hM⟩, Tn_frC huv hF cT, Nw_eq e0 e1 e3 rfl (fun k k1 k2 => fk k (fun i => by unfold ScC; omega)) cN, ?_, ?_, ?_, ?_, ?_, ?_⟩
  · obtain ⟨p1, p2, p3⟩ := cP
    unfold Pst
    rw [c1]
    exact ⟨p1, p2, fun i i1 i2 => Nw_eq e0 e1 e3 rfl (fun k k1 k2 => fk k (fun i => by unfold ScC; omega)) (p3 i i1 i2)⟩
  · unfold cTape
    rw [c1, fk 2 (fun i => by unfold ScC; omega)]
    exact cTp
  · unfold cSeed
    rw [c1]
    exact cS
  · unfold cShot
    rw [c1, fk 101 (fun i => by unfold ScC; omega)]
    exact cSh
  · unfold cFault
    rw [f 3 0 (by unfold ScC; omega), f 3 1 (by unfold ScC; omega)]
    exact cF
  · unfold cOwn
    rw [fk 45 (fun i => by unfold ScC; omega)]
    exact cO
theorem Cp_frM (hF : Fr ScM h h') (hM : mmInv tFM h') (hc : Cp u g h) : Cp u g h' := by
  have f : ∀ k i, ¬ ScM k i → h' k i = h k i := hF
  have fk : ∀ k, (∀ i, ¬ ScM k i) → h' k = h k := fun k q => funext fun i => f k i (q i)
  obtain ⟨hu, ⟨hI, -⟩, cT, cN, cP, cTp, cS, cSh, cF, cO⟩ := hc
  refine ⟨hu, ⟨hI, hM⟩, Tn_frM (fun k i q => f k i (by unfold TnM at q; unfold ScM; omega)) cT, Nw_eq rfl rfl rfl (fk _ (fun i => by unfold ScM; omega)) (fun _ _ _ => rfl) cN, ?_, ?_, ?_, ?_, ?_, cO⟩
  · obtain ⟨p1, p2, p3⟩ := cP
    unfold Pst
    rw [f 282 67 (by unfold ScM; omega), f 282 68 (by unfold ScM; omega)]
    exact ⟨p1, p2, fun i i1 i2 => Nw_eq rfl rfl rfl (fk _ (fun i => by unfold ScM; omega)) (fun _ _ _ => rfl) (p3 i i1 i2)⟩
  · unfold cTape
    rw [f 282 1 (by unfold ScM; omega), fk 283 (fun i => by unfold ScM; omega)]
    exact cTp
  · unfold cSeed
    rw [f 282 69 (by unfold ScM; omega)]
    exact cS
  · unfold cShot
    rw [f 282 71 (by unfold ScM; omega), fk 335 (fun i => by unfold ScM; omega)]
    exact cSh
  · unfold cFault
    rw [f 282 7 (by unfold ScM; omega), f 282 8 (by unfold ScM; omega)]
    exact cF
end ST
