/-! ===== mm: acts: what they keep ===== -/
theorem mDiv_nn {a b : Int} (h1 : 0 ≤ a) (h2 : a < 2147483648) (h3 : 0 < b) (h4 : b < 2147483648) : mDiv a b = a / b := by
  rw [mDiv_def, Int32.toInt_div_of_ne_left _ _ (fun q => by
    have := congrArg Int32.toInt q
    rw [Int32.toInt_ofInt_of_le (by omega) (by omega)] at this
    rw [this] at h1
    exact absurd h1 (by decide)), Int32.toInt_ofInt_of_le (by omega) (by omega), Int32.toInt_ofInt_of_le (by omega) (by omega), Int.tdiv_eq_ediv_of_nonneg h1]
theorem mRem_nn {a b : Int} (h1 : 0 ≤ a) (h2 : a < 2147483648) (h3 : 0 < b) (h4 : b < 2147483648) : mRem a b = a % b := by
  have e := mDiv_nn h1 h2 h3 h4
  rw [mDiv_def] at e
  have q1 : 0 ≤ a / b := Int.ediv_nonneg h1 (by omega)
  have q2 : a / b * b ≤ a := Int.ediv_mul_le a (by omega)
  have q3 : a / b ≤ a := Int.ediv_le_self b h1
  have q4 := Int.emod_nonneg a (show b ≠ 0 by omega)
  have q6 : 0 ≤ a / b * b := Int.mul_nonneg q1 (by omega)
  have q5 : a / b * b + a % b = a := Int.ediv_mul_add_emod a b
  rw [mRem_def]
  have e1 : Int32.ofInt a / Int32.ofInt b = Int32.ofInt (a / b) := by
    apply Int32.toInt.inj
    rw [e, Int32.toInt_ofInt_of_le (by omega) (by omega)]
  rw [e1, ← Int32.ofInt_mul, ← Int32.ofInt_sub, Int32.toInt_ofInt_of_le (by omega) (by omega)]
  omega
section AC
variable {u : Int} {g g' h h' : mmH}
theorem Tn_frT (f : ∀ k i, u ≤ k → k ≤ u + 38 → (k = u + 33 → i = 0) → g' k i = g k i) (hc : Tn u 1 g h) : Tn u 1 g' h := by
  obtain ⟨c1, c2, c3, c4, c5, c6⟩ := hc
  have n := c1.2.1
  have e0 := f u 0 (by omega) (by omega) (by omega)
  have e1 := f u 1 (by omega) (by omega) (by omega)
  have e3 := f u 3 (by omega) (by omega) (by omega)
  refine ⟨?_, fun l l1 l2 => ?_, fun l l1 l2 => ?_, fun a b a1 a2 b1 b2 => ?_, ?_, fun k k1 k2 => ?_⟩
  · unfold cNum at c1 ⊢
    rw [e0, e1, e3, f u 2 (by omega) (by omega) (by omega), f u 4 (by omega) (by omega) (by omega), f u 5 (by omega) (by omega) (by omega), f (u + 33) 0 (by omega) (by omega) (by omega)]
    exact c1
  · rw [e1] at l2
    have e : g' (u + 5 + l) = g (u + 5 + l) := funext fun i => f _ _ (by omega) (by omega) (by omega)
    rw [e, e0]
    exact c2 l l1 l2
  · rw [e3] at l2
    have e : g' (u + 16 + l) = g (u + 16 + l) := funext fun i => f _ _ (by omega) (by omega) (by omega)
    rw [e, e1]
    exact c3 l l1 l2
  · rw [e1] at a2 b2
    have e : g' (u + 23 + a) = g (u + 23 + a) := funext fun i => f _ _ (by omega) (by omega) (by omega)
    rw [e]
    exact c4 a b a1 a2 b1 b2
  · unfold cName
    have e11 : g' (u + 1) = g (u + 1) := funext fun i => f _ _ (by omega) (by omega) (by omega)
    have e12 : g' (u + 2) = g (u + 2) := funext fun i => f _ _ (by omega) (by omega) (by omega)
    have e13 : g' (u + 3) = g (u + 3) := funext fun i => f _ _ (by omega) (by omega) (by omega)
    rw [e0, e1, e3, e11, e12, e13]
    exact c5
  · have e34 : g' (u + 34) = g (u + 34) := funext fun i => f _ _ (by omega) (by omega) (by omega)
    have e35 : g' (u + 35) = g (u + 35) := funext fun i => f _ _ (by omega) (by omega) (by omega)
    have e36 : g' (u + 36) = g (u + 36) := funext fun i => f _ _ (by omega) (by omega) (by omega)
    have e37 : g' (u + 37) = g (u + 37) := funext fun i => f _ _ (by omega) (by omega) (by omega)
    have e38 : g' (u + 38) = g (u + 38) := funext fun i => f _ _ (by omega) (by omega) (by omega)
    rw [f (u + 33) 0 (by omega) (by omega) (by omega)] at k2
    rw [e34, e35, e36, e37, e38]
    exact c6 k k1 k2
/-- from one row of roofs to another -/
theorem Nw_cp {c m o c2 m2 o2 : Int} (n0 : g u 0 ≤ 5) (n1 : g u 1 ≤ 10) (n3 : g u 3 ≤ 6) (e0 : g' u 0 = g u 0) (e1 : g' u 1 = g u 1) (e3 : g' u 3 = g u 3)
    (r0 : ∀ i, 0 ≤ i → i < 3 → g' c2 i = g c i) (r1 : ∀ i, 0 ≤ i → i < 10 → g' (c2 + 1) i = g (c + 1) i) (r2 : ∀ i, 0 ≤ i → i < 6 → g' (c2 + 2) i = g (c + 2) i) (r3 : ∀ i, 0 ≤ i → i < 6 → g' (c2 + 3) i = g (c + 3) i) (r4 : ∀ i, 0 ≤ i → i < 5 → g' (c2 + 4) i = g (c + 4) i)
    (r6 : ∀ i, 0 ≤ i → i < 60 → g' (c2 + 6) i = g (c + 6) i) (r7 : ∀ i, 0 ≤ i → i < 60 → g' (c2 + 7) i = g (c + 7) i) (r8 : ∀ i, 0 ≤ i → i < 60 → g' (c2 + 8) i = g (c + 8) i)
    (hm : ∀ j, 0 ≤ j → j < 210 → h' m2 (o2 + j) = h m (o + j)) (hc : Nw c m o u g h) : Nw c2 m2 o2 u g' h' := by
  obtain ⟨a1, a2, a3, a4, a5, a6, a7⟩ := hc
  have h0 := hm 0 (by omega) (by omega)
  rw [Int.add_zero, Int.add_zero] at h0
  refine ⟨?_, ?_, ?_, fun l l1 l2 => ?_, fun p p1 p2 => ?_, fun q q1 q2 => ?_, fun k k1 k2 => ?_⟩
  · rw [h0, r0 0 (by omega) (by omega)]; exact a1
  · rw [hm 1 (by omega) (by omega), r0 1 (by omega) (by omega)]; exact a2
  · rw [hm 29 (by omega) (by omega), r0 2 (by omega) (by omega)]; exact a3
  · rw [e1] at l2
    rw [hm (2 + l) (by omega) (by omega), r1 l l1 (by omega)]; exact a4 l l1 l2
  · rw [e3] at p2
    rw [hm (12 + 2 * p) (by omega) (by omega), hm (12 + 2 * p + 1) (by omega) (by omega), r2 p p1 (by omega), r3 p p1 (by omega), e1]; exact a5 p p1 p2
  · rw [e0] at q2
    rw [hm (24 + q) (by omega) (by omega), r4 q q1 (by omega)]; exact a6 q q1 q2
  · rw [r0 2 (by omega) (by omega)] at k2
    rw [hm (30 + 3 * k) (by omega) (by omega), hm (30 + 3 * k + 1) (by omega) (by omega), hm (30 + 3 * k + 2) (by omega) (by omega), r6 k k1 (by omega), r7 k k1 (by omega), r8 k k1 (by omega)]
    exact a7 k k1 k2
/-- all that is coupled but for what is now -/
def Cx (u : Int) (g h : mmH) : Prop := Tn u 1 g h ∧ Pst u g h ∧ cTape g h ∧ cSeed g h ∧ cShot g h ∧ cFault g h ∧ cOwn g
def Cy (u : Int) (g h : mmH) : Prop := Cx u g h ∧ Nw 86 329 0 u g h
theorem Cp.y (hC : Cp u g h) : Cy u g h := by
  obtain ⟨-, -, a1, a2, a3, a4, a5, a6, a7, a8⟩ := hC
  exact ⟨⟨a1, a3, a4, a5, a6, a7, a8⟩, a2⟩
theorem Cy.cp (hu : u = 5 ∨ u = 46) (hI : mmInv (tFu u) g) (hM : mmInv tFM h) (hC : Cy u g h) : Cp u g h := by
  obtain ⟨⟨a1, a3, a4, a5, a6, a7, a8⟩, a2⟩ := hC
  exact ⟨hu, ⟨hI, hM⟩, a1, a2, a3, a4, a5, a6, a7, a8⟩
/-- cells that acts write and that no past, tape, seed, image, fault rests on -/
def SnC (k i : Int) : Prop := (86 ≤ k ∧ k ≤ 94) ∨ k = 44 ∨ k = 85 ∨ (96 ≤ k ∧ k ≤ 100) ∨ ((k = 38 ∨ k = 79) ∧ 8 ≤ i ∧ i ≤ 12)
def SnM (k i : Int) : Prop := k = 329 ∨ ScM k i
theorem Cx_fr (hu : u = 5 ∨ u = 46) (hF : Fr SnC g g') (hG : Fr SnM h h') (hc : Cx u g h) : Cx u g' h' := by
  have f : ∀ k i, ¬ SnC k i → g' k i = g k i := hF
  have fk : ∀ k, (∀ i, ¬ SnC k i) → g' k = g k := fun k q => funext fun i => f k i (q i)
  have m : ∀ k i, ¬ SnM k i → h' k i = h k i := hG
  have mk : ∀ k, (∀ i, ¬ SnM k i) → h' k = h k := fun k q => funext fun i => m k i (q i)
  obtain ⟨cT, cP, cTp, cS, cSh, cF, cO⟩ := hc
  have e0 := f u 0 (by unfold SnC; omega)
  have e1 := f u 1 (by unfold SnC; omega)
  have e3 := f u 3 (by unfold SnC; omega)
  have c1 := fk 1 (fun i => by unfold SnC; omega)
  refine ⟨Tn_frT (fun k i k1 k2 k3 => f k i (by unfold SnC; omega)) (Tn_frM (fun k i q => m k i (by unfold TnM at q; unfold SnM ScM; omega)) cT), ?_, ?_, ?_, ?_, ?_, ?_⟩
  · obtain ⟨p1, p2, p3⟩ := cP
    unfold Pst
    rw [c1, m 282 67 (by unfold SnM ScM; omega), m 282 68 (by unfold SnM ScM; omega)]
    exact ⟨p1, p2, fun i i1 i2 => Nw_eq e0 e1 e3 (mk _ (fun i => by unfold SnM ScM; omega)) (fun k k1 k2 => fk k (fun i => by unfold SnC; omega)) (p3 i i1 i2)⟩
  · unfold cTape
    rw [c1, fk 2 (fun i => by unfold SnC; omega), m 282 1 (by unfold SnM ScM; omega), mk 283 (fun i => by unfold SnM ScM; omega)]
    exact cTp
  · unfold cSeed
    rw [c1, m 282 69 (by unfold SnM ScM; omega)]
    exact cS
  · unfold cShot
    rw [c1, fk 101 (fun i => by unfold SnC; omega), m 282 71 (by unfold SnM ScM; omega), mk 335 (fun i => by unfold SnM ScM; omega)]
    exact cSh
  · unfold cFault
    rw [f 3 0 (by unfold SnC; omega), f 3 1 (by unfold SnC; omega), m 282 7 (by unfold SnM ScM; omega), m 282 8 (by unfold SnM ScM; omega)]
    exact cF
  · unfold cOwn
    rw [fk 45 (fun i => by unfold SnC; omega)]
    exact cO
def kept (g g' : mmH) : Prop := ∃ gm, cpyd (102 + 9 * g 1 6) 86 g gm ∧ g' = mmS (mmS gm 1 6 ((g 1 6 + 1) % 20)) 1 7 (mMin (g 1 7 + 1) 20)
def keptM (h h' : mmH) : Prop := Fr (fun k i => k = 334 ∨ (k = 282 ∧ (i = 67 ∨ i = 68))) h h' ∧ h' 282 68 = (h 282 68 + 1) % 20 ∧ h' 282 67 = (if 20 ≤ h 282 67 then h 282 67 else h 282 67 + 1) ∧ ∀ i, h' 334 i = if 210 * ((h 282 68 + 1) % 20) ≤ i ∧ i < 210 * ((h 282 68 + 1) % 20) + 210 then h 329 (i - 210 * ((h 282 68 + 1) % 20)) else h 334 i
theorem kept_fr (n : 0 ≤ g 1 6 ∧ g 1 6 < 20) (hk : kept g g') : Fr (fun k i => (102 ≤ k ∧ k ≤ 281) ∨ (k = 1 ∧ (i = 6 ∨ i = 7))) g g' := by
  obtain ⟨gm, h1, rfl⟩ := hk
  exact ((h1.1.mono (fun k i q => Or.inl (by omega))).put (Or.inr (by omega))).put (Or.inr (by omega))
theorem keptCy (hu : u = 5 ∨ u = 46) (hk : kept g g') (hm : keptM h h') (hc : Cy u g h) : Cy u g' h' := by
  obtain ⟨⟨cT, cP, cTp, cS, cSh, cF, cO⟩, cN⟩ := hc
  obtain ⟨⟨p11, p12⟩, ⟨p21, p22⟩, p3⟩ := cP
  have n := cT.1.2.1
  have hF := kept_fr p22 hk
  have f : ∀ k i, ¬ ((102 ≤ k ∧ k ≤ 281) ∨ (k = 1 ∧ (i = 6 ∨ i = 7))) → g' k i = g k i := hF
  have fk : ∀ k, ¬ (102 ≤ k ∧ k ≤ 281) → k ≠ 1 → g' k = g k := fun k q q2 => funext fun i => f k i (by omega)
  obtain ⟨gm, ⟨z0, z1, z2, z3, z4, z5, z6, z7, z8⟩, rfl⟩ := hk
  obtain ⟨y0, y1, y2, y3⟩ := hm
  have m : ∀ k i, ¬ (k = 334 ∨ (k = 282 ∧ (i = 67 ∨ i = 68))) → h' k i = h k i := y0
  have mk : ∀ k, k ≠ 334 → k ≠ 282 → h' k = h k := fun k q q2 => funext fun i => m k i (by omega)
  have e0 := f u 0 (by omega)
  have e1 := f u 1 (by omega)
  have e3 := f u 3 (by omega)
  generalize hG : mmS (mmS gm 1 6 ((g 1 6 + 1) % 20)) 1 7 (mMin (g 1 7 + 1) 20) = g' at f fk e0 e1 e3 hF ⊢
  have g16 : g' 1 6 = (g 1 6 + 1) % 20 := by rw [← hG, mmS_slot, if_neg (by omega), mmS_slot, if_pos rfl]
  have g17 : g' 1 7 = mMin (g 1 7 + 1) 20 := by rw [← hG, mmS_slot, if_pos rfl]
  have gk : ∀ k i, k ≠ 1 → g' k i = gm k i := fun k i q => by rw [← hG, mmS_cell q, mmS_cell q]
  have gz : ∀ k, ¬ (102 + 9 * g 1 6 ≤ k ∧ k ≤ 102 + 9 * g 1 6 + 8) → k ≠ 1 → g' k = g k := fun k q q2 => funext fun i => by rw [gk k i q2]; exact z0 k i q
  refine ⟨⟨Tn_frT (fun k i k1 k2 k3 => f k i (by omega)) (Tn_frM (fun k i q => m k i (by unfold TnM at q; omega)) cT), ⟨⟨?_, ?_⟩, ⟨?_, ?_⟩, fun i i1 i2 => ?_⟩, ?_, ?_, ?_, ?_, ?_⟩, ?_⟩
  · rw [y2, g17]; unfold mMin; (repeat' split) <;> omega
  · rw [g17]; unfold mMin; (repeat' split) <;> omega
  · rw [y1, g16, p21]
  · rw [g16]; omega
  · rw [g17] at i2
    have i3 : i < 20 ∧ i ≤ g 1 7 := by unfold mMin at i2; split at i2 <;> omega
    rw [g16]
    by_cases q : i = 0
    · subst q
      rw [show ((g 1 6 + 1) % 20 + 19 - 0) % 20 = g 1 6 by omega, show ((g 1 6 + 1) % 20 + 20 - 0) % 20 = (g 1 6 + 1) % 20 by omega]
      refine Nw_cp (c := 86) (m := 329) (o := 0) n.1.2 n.2.1.2 n.2.2.1.2 e0 e1 e3 (fun i i1 i2 => ?_) (fun i i1 i2 => ?_) (fun i i1 i2 => ?_) (fun i i1 i2 => ?_) (fun i i1 i2 => ?_) (fun i i1 i2 => ?_) (fun i i1 i2 => ?_) (fun i i1 i2 => ?_) (fun j j1 j2 => ?_) cN
      · rw [gk _ _ (by omega)]; exact z1 i i1 i2
      · rw [gk _ _ (by omega)]; exact z2 i i1 i2
      · rw [gk _ _ (by omega)]; exact z3 i i1 i2
      · rw [gk _ _ (by omega)]; exact z4 i i1 i2
      · rw [gk _ _ (by omega)]; exact z5 i i1 i2
      · rw [gk _ _ (by omega)]; exact z6 i i1 i2
      · rw [gk _ _ (by omega)]; exact z7 i i1 i2
      · rw [gk _ _ (by omega)]; exact z8 i i1 i2
      · rw [y3, p21, if_pos (by omega), show 210 * ((g 1 6 + 1) % 20) + j - 210 * ((g 1 6 + 1) % 20) = 0 + j by omega]
    · have hp := p3 (i - 1) (by omega) (by omega)
      rw [show ((g 1 6 + 1) % 20 + 19 - i) % 20 = (g 1 6 + 19 - (i - 1)) % 20 by omega, show ((g 1 6 + 1) % 20 + 20 - i) % 20 = (g 1 6 + 20 - (i - 1)) % 20 by omega]
      have ek : ∀ k, 102 + 9 * ((g 1 6 + 19 - (i - 1)) % 20) ≤ k → k ≤ 102 + 9 * ((g 1 6 + 19 - (i - 1)) % 20) + 8 → g' k = g k := fun k k1 k2 => gz k (by omega) (by omega)
      refine Nw_cp (c := 102 + 9 * ((g 1 6 + 19 - (i - 1)) % 20)) (m := 334) (o := 210 * ((g 1 6 + 20 - (i - 1)) % 20)) n.1.2 n.2.1.2 n.2.2.1.2 e0 e1 e3 (fun i _ _ => ?_) (fun i _ _ => ?_) (fun i _ _ => ?_) (fun i _ _ => ?_) (fun i _ _ => ?_) (fun i _ _ => ?_) (fun i _ _ => ?_) (fun i _ _ => ?_) (fun j j1 j2 => ?_) hp
      · rw [ek _ (by omega) (by omega)]
      · rw [ek _ (by omega) (by omega)]
      · rw [ek _ (by omega) (by omega)]
      · rw [ek _ (by omega) (by omega)]
      · rw [ek _ (by omega) (by omega)]
      · rw [ek _ (by omega) (by omega)]
      · rw [ek _ (by omega) (by omega)]
      · rw [ek _ (by omega) (by omega)]
      · rw [y3, p21, if_neg (by omega)]
  · unfold cTape
    rw [f 1 1 (by omega), fk 2 (by omega) (by omega), m 282 1 (by omega), mk 283 (by omega) (by omega)]
    exact cTp
  · unfold cSeed
    rw [f 1 8 (by omega), m 282 69 (by omega)]
    exact cS
  · unfold cShot
    rw [f 1 11 (by omega), fk 101 (by omega) (by omega), m 282 71 (by omega), mk 335 (by omega) (by omega)]
    exact cSh
  · unfold cFault
    rw [f 3 0 (by omega), f 3 1 (by omega), m 282 7 (by omega), m 282 8 (by omega)]
    exact cF
  · unfold cOwn
    rw [fk 45 (by omega) (by omega)]
    exact cO
  · exact Nw_eq e0 e1 e3 (mk 329 (by omega) (by omega)) (fun k k1 k2 => fk k (by omega) (by omega)) cN
end AC
