/-! ===== mm: what the two sides have in common stays where only the rest is written ===== -/
section ST
variable {u v : Int} {h h' : mmH}
theorem cNum_fr (huv : (u = 5 ∧ v = 46) ∨ (u = 46 ∧ v = 5)) (hF : Fr (Scr v) h h') (hc : cNum u 1 h) : cNum u 1 h' := by
  have f : ∀ k i, ¬ Scr v k i → h' k i = h k i := hF
  unfold cNum at hc ⊢
  rw [f 313 (5 * 1) (by unfold Scr; omega), f 313 (5 * 1 + 1) (by unfold Scr; omega), f 313 (5 * 1 + 2) (by unfold Scr; omega), f 313 (5 * 1 + 3) (by unfold Scr; omega), f 313 (5 * 1 + 4) (by unfold Scr; omega),
    f u 0 (by unfold Scr; omega), f u 1 (by unfold Scr; omega), f u 2 (by unfold Scr; omega), f u 3 (by unfold Scr; omega), f u 4 (by unfold Scr; omega), f u 5 (by unfold Scr; omega), f (u + 33) 0 (by unfold Scr; omega), f 319 1 (by unfold Scr; omega), f 318 1 (by unfold Scr; omega)]
  exact hc
theorem cLot_fr (huv : (u = 5 ∧ v = 46) ∨ (u = 46 ∧ v = 5)) (hF : Fr (Scr v) h h') (hn : h u 1 ≤ 10) (hc : cLot u 1 h) : cLot u 1 h' := by
  have f : ∀ k i, ¬ Scr v k i → h' k i = h k i := hF
  intro l l1 l2
  rw [f u 1 (by unfold Scr; omega)] at l2
  have := hc l l1 l2
  have e : h' (u + 5 + l) = h (u + 5 + l) := funext fun i => f _ _ (by unfold Scr; omega)
  rw [e, f u 0 (by unfold Scr; omega), f 315 (50 * 1 + 5 * l) (by unfold Scr; omega), f 315 (50 * 1 + 5 * l + 1) (by unfold Scr; omega), f 315 (50 * 1 + 5 * l + 2) (by unfold Scr; omega), f 315 (50 * 1 + 5 * l + 3) (by unfold Scr; omega), f 315 (50 * 1 + 5 * l + 4) (by unfold Scr; omega)]
  exact this
theorem cPer_fr (huv : (u = 5 ∧ v = 46) ∨ (u = 46 ∧ v = 5)) (hF : Fr (Scr v) h h') (hn : h u 3 ≤ 6) (hc : cPer u 1 h) : cPer u 1 h' := by
  have f : ∀ k i, ¬ Scr v k i → h' k i = h k i := hF
  intro l l1 l2
  rw [f u 3 (by unfold Scr; omega)] at l2
  have := hc l l1 l2
  have e : h' (u + 16 + l) = h (u + 16 + l) := funext fun i => f _ _ (by unfold Scr; omega)
  rw [e, f u 1 (by unfold Scr; omega)]
  refine ⟨fun c c1 c2 => ?_, this.2⟩
  rw [f 317 (36 * 1 + 6 * l + c) (by unfold Scr; omega)]
  exact this.1 c c1 c2
theorem cGap_fr (huv : (u = 5 ∧ v = 46) ∨ (u = 46 ∧ v = 5)) (hF : Fr (Scr v) h h') (hn : h u 1 ≤ 10) (hc : cGap u 1 h) : cGap u 1 h' := by
  have f : ∀ k i, ¬ Scr v k i → h' k i = h k i := hF
  intro a b a1 a2 b1 b2
  rw [f u 1 (by unfold Scr; omega)] at a2 b2
  have := hc a b a1 a2 b1 b2
  have e : h' (u + 23 + a) = h (u + 23 + a) := funext fun i => f _ _ (by unfold Scr; omega)
  rw [e, f 316 (100 * 1 + 10 * a + b) (by unfold Scr; omega)]
  exact this
theorem cName_fr (huv : (u = 5 ∧ v = 46) ∨ (u = 46 ∧ v = 5)) (hF : Fr (Scr v) h h') (hc : cName u 1 h) : cName u 1 h' := by
  have f : ∀ k i, ¬ Scr v k i → h' k i = h k i := hF
  unfold cName
  rw [f u 0 (by unfold Scr; omega), f u 1 (by unfold Scr; omega), f u 3 (by unfold Scr; omega)]
  refine ⟨fun k k1 k2 => ?_, fun k k1 k2 => ?_, fun k k1 k2 => ?_⟩
  · rw [f (u + 1) k (by unfold Scr; omega), f 314 _ (by unfold Scr; omega)]
    exact hc.1 k k1 k2
  · rw [f (u + 2) k (by unfold Scr; omega), f 314 _ (by unfold Scr; omega)]
    exact hc.2.1 k k1 k2
  · rw [f (u + 3) k (by unfold Scr; omega), f 314 _ (by unfold Scr; omega)]
    exact hc.2.2 k k1 k2
theorem cLaw_fr2 (huv : (u = 5 ∧ v = 46) ∨ (u = 46 ∧ v = 5)) (hF : Fr (Scr v) h h') (hc : cLaw u 1 h) : cLaw u 1 h' := by
  have f : ∀ k i, ¬ Scr v k i → h' k i = h k i := hF
  have e34 : h' (u + 34) = h (u + 34) := funext fun i => f _ _ (by unfold Scr; omega)
  have e35 : h' (u + 35) = h (u + 35) := funext fun i => f _ _ (by unfold Scr; omega)
  have e36 : h' (u + 36) = h (u + 36) := funext fun i => f _ _ (by unfold Scr; omega)
  have e37 : h' (u + 37) = h (u + 37) := funext fun i => f _ _ (by unfold Scr; omega)
  have e38 : h' (u + 38) = h (u + 38) := funext fun i => f _ _ (by unfold Scr; omega)
  intro k k1 k2
  rw [f (u + 33) 0 (by unfold Scr; omega)] at k2
  obtain ⟨c1, c2, c3, c4, c5, c6, c7, c8, c9, c10⟩ := hc k k1 k2
  rw [e34, e35, e36, e37, e38, f 320 _ (by unfold Scr; omega), f 321 _ (by unfold Scr; omega), f 324 _ (by unfold Scr; omega), f 325 _ (by unfold Scr; omega), f 326 _ (by unfold Scr; omega)]
  refine ⟨c1, c2, c3, c4, c5, c6, c7, c8, c9, fun j j1 j2 => ?_⟩
  rw [f 322 _ (by unfold Scr; omega)]
  exact c10 j j1 j2
theorem Tn_fr (huv : (u = 5 ∧ v = 46) ∨ (u = 46 ∧ v = 5)) (hF : Fr (Scr v) h h') (hc : Tn u 1 h) : Tn u 1 h' := by
  obtain ⟨c1, c2, c3, c4, c5, c6⟩ := hc
  have n := c1.2.1
  exact ⟨cNum_fr huv hF c1, cLot_fr huv hF n.2.1.2 c2, cPer_fr huv hF n.2.2.1.2 c3, cGap_fr huv hF n.2.1.2 c4, cName_fr huv hF c5, cLaw_fr2 huv hF c6⟩
/-- a heap's cells that Nw reads -/
theorem Nw_eq {c m o : Int} (e1 : h' u 0 = h u 0) (e2 : h' u 1 = h u 1) (e3 : h' u 3 = h u 3) (em : h' m = h m) (ec : ∀ k, c ≤ k → k ≤ c + 8 → h' k = h k) (hc : Nw c m o u h) : Nw c m o u h' := by
  unfold Nw at hc ⊢
  rw [em, e1, e2, e3, ec c (by omega) (by omega), ec (c + 1) (by omega) (by omega), ec (c + 2) (by omega) (by omega), ec (c + 3) (by omega) (by omega), ec (c + 4) (by omega) (by omega), ec (c + 6) (by omega) (by omega), ec (c + 7) (by omega) (by omega), ec (c + 8) (by omega) (by omega)]
  exact hc
theorem Cp_fr (hv : v = 51 - u) (hF : Fr (Scr v) h h') (hI : mmInv (tFu u) h') (hM : mmInv tFM h') (hc : Cp u h) : Cp u h' := by
  have f : ∀ k i, ¬ Scr v k i → h' k i = h k i := hF
  have g : ∀ k, (∀ i, ¬ Scr v k i) → h' k = h k := fun k q => funext fun i => f k i (q i)
  obtain ⟨hu, -, cT, cN, cP, cTp, cS, cSh, cF, cO⟩ := hc
  have huv : (u = 5 ∧ v = 46) ∨ (u = 46 ∧ v = 5) := by omega
  have e0 := f u 0 (by unfold Scr; omega)
  have e1 := f u 1 (by unfold Scr; omega)
  have e3 := f u 3 (by unfold Scr; omega)
  have c1 := g 1 (fun i => by unfold Scr; omega)
  refine ⟨hu, ⟨hI, hM⟩, Tn_fr huv hF cT, Nw_eq e0 e1 e3 (g _ (fun i => by unfold Scr; omega)) (fun k k1 k2 => g k (fun i => by unfold Scr; omega)) cN, ?_, ?_, ?_, ?_, ?_, ?_⟩
  · obtain ⟨p1, p2, p3⟩ := cP
    unfold Pst
    rw [c1, f 282 67 (by unfold Scr; omega), f 282 68 (by unfold Scr; omega)]
    exact ⟨p1, p2, fun i i1 i2 => Nw_eq e0 e1 e3 (g _ (fun i => by unfold Scr; omega)) (fun k k1 k2 => g k (fun i => by unfold Scr; omega)) (p3 i i1 i2)⟩
  · unfold cTape
    rw [c1, f 282 1 (by unfold Scr; omega), g 283 (fun i => by unfold Scr; omega), g 2 (fun i => by unfold Scr; omega)]
    exact cTp
  · unfold cSeed
    rw [c1, f 282 69 (by unfold Scr; omega)]
    exact cS
  · unfold cShot
    rw [c1, f 282 71 (by unfold Scr; omega), g 335 (fun i => by unfold Scr; omega), g 101 (fun i => by unfold Scr; omega)]
    exact cSh
  · unfold cFault
    rw [f 282 7 (by unfold Scr; omega), f 282 8 (by unfold Scr; omega), f 3 0 (by unfold Scr; omega), f 3 1 (by unfold Scr; omega)]
    exact cF
  · unfold cOwn
    rw [g 45 (fun i => by unfold Scr; omega)]
    exact cO
end ST
