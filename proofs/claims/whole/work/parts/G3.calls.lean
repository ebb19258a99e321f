/-! ===== mm: the two sides' calls, one behind the other ===== -/
theorem lk_mem {i c : Int} : ∀ {l : List (Int × Int)}, List.lookup i l = some c → (i, c) ∈ l
  | [], h => by cases h
  | (k, v) :: l, h => by
    rw [lk_cons] at h
    by_cases q : i = k
    · rw [if_pos q] at h
      rw [q, Option.some.inj h]
      exact List.mem_cons_self
    · rw [if_neg q] at h
      exact List.mem_cons_of_mem _ (lk_mem h)
theorem tfl_lo : ∀ k : Fin 282, ∀ e ∈ tFLM.getD k.val [], (tFLA.getD k.val []).lookup e.1 = some e.2 ∧ (tFLB.getD k.val []).lookup e.1 = some e.2 := by decide +kernel
theorem tfl_hi : ∀ k : Fin 336, 282 ≤ k.val → (∀ e ∈ tFLA.getD k.val [], (tFLM.getD k.val []).lookup e.1 = some e.2) ∧ ∀ e ∈ tFLB.getD k.val [], (tFLM.getD k.val []).lookup e.1 = some e.2 := by decide +kernel
theorem tf_lo {k i c : Int} (h : tFM k i = some c) (hk : k < 282) : tFA k i = some c ∧ tFB k i = some c := by
  unfold tFM at h
  unfold tFA tFB
  by_cases q : k < 0
  · rw [if_pos q] at h; cases h
  · rw [if_neg q] at h ⊢
    rw [if_neg q]
    exact tfl_lo ⟨k.toNat, by omega⟩ (i, c) (lk_mem h)
theorem tf_hi {u k i c : Int} (h : tFu u k i = some c) (hk : 282 ≤ k) : tFM k i = some c := by
  unfold tFu at h
  unfold tFM
  rw [if_neg (by omega)]
  by_cases q2 : k.toNat < 336
  · have z := tfl_hi ⟨k.toNat, q2⟩ (by show 282 ≤ k.toNat; omega)
    split at h
    · unfold tFA at h
      rw [if_neg (by omega)] at h
      exact z.1 (i, c) (lk_mem h)
    · unfold tFB at h
      rw [if_neg (by omega)] at h
      exact z.2 (i, c) (lk_mem h)
  · exfalso
    split at h
    · unfold tFA at h
      rw [if_neg (by omega), getD_out _ _ (by rw [len336.1]; omega)] at h
      cases h
    · unfold tFB at h
      rw [if_neg (by omega), getD_out _ _ (by rw [len336.2.1]; omega)] at h
      cases h
theorem tf_lo2 {u k i c : Int} (h : tFM k i = some c) (hk : k < 282) : tFu u k i = some c := by
  unfold tFu
  split
  · exact (tf_lo h hk).1
  · exact (tf_lo h hk).2
theorem inv_M {u : Int} {h h1 : mmH} (hI : mmInv (tFu u) h1) (hM : mmInv tFM h) (hh : ∀ k, 282 ≤ k → h1 k = h k) : mmInv tFM h1 := fun k i c e => by
  by_cases q : k < 282
  · exact hI k i c (tf_lo2 e q)
  · rw [hh k (by omega)]; exact hM k i c e
theorem inv_U {u : Int} {h1 h2 : mmH} (hI : mmInv (tFu u) h1) (hM : mmInv tFM h2) (hh : ∀ k, k < 282 → h2 k = h1 k) : mmInv (tFu u) h2 := fun k i c e => by
  by_cases q : k < 282
  · rw [hh k q]; exact hI k i c e
  · exact hM k i c (tf_hi e (by omega))
section EX
variable {u : Int} {g g' h h' : mmH}
theorem Cy_ext (hu : u = 5 ∨ u = 46) (hg : ∀ k, 0 < k → k < 282 → g' k = g k) (hh : ∀ k, 282 ≤ k → h' k = h k) (hC : Cy u g h) : Cy u g' h' := by
  obtain ⟨⟨cT, cP, cTp, cS, cSh, cF, cO⟩, cN⟩ := hC
  have e0 : g' u 0 = g u 0 := by rw [hg u (by omega) (by omega)]
  have e1 : g' u 1 = g u 1 := by rw [hg u (by omega) (by omega)]
  have e3 : g' u 3 = g u 3 := by rw [hg u (by omega) (by omega)]
  refine ⟨⟨Tn_frT (fun k i k1 k2 _ => by rw [hg k (by omega) (by omega)]) (Tn_frM (fun k i q => by rw [hh k (by unfold TnM at q; omega)]) cT), ?_, ?_, ?_, ?_, ?_, ?_⟩, Nw_eq e0 e1 e3 (hh _ (by omega)) (fun k k1 k2 => hg k (by omega) (by omega)) cN⟩
  · obtain ⟨p1, p2, p3⟩ := cP
    unfold Pst
    rw [hh 282 (by omega), hg 1 (by omega) (by omega)]
    exact ⟨p1, p2, fun i i1 i2 => Nw_eq e0 e1 e3 (hh _ (by omega)) (fun k k1 k2 => hg k (by omega) (by omega)) (p3 i i1 i2)⟩
  · unfold cTape
    rw [hh 282 (by omega), hh 283 (by omega), hg 1 (by omega) (by omega), hg 2 (by omega) (by omega)]
    exact cTp
  · unfold cSeed
    rw [hh 282 (by omega), hg 1 (by omega) (by omega)]
    exact cS
  · unfold cShot
    rw [hh 282 (by omega), hh 335 (by omega), hg 1 (by omega) (by omega), hg 101 (by omega) (by omega)]
    exact cSh
  · unfold cFault
    rw [hh 282 (by omega), hg 3 (by omega) (by omega)]
    exact cF
  · unfold cOwn
    rw [hg 45 (by omega) (by omega)]
    exact cO
end EX
/-- between two calls of the law -/
def Cq (h : mmH) : Prop := ∃ u, Cp u h h
abbrev kM : Nat → List Int → mmH → (Int → mmH → Prop) → Prop := mmC tSh tTg (fun _ _ => none) tWn tMp tBl tL tTx0 99
def LC (kc km : Nat) (as : List Int) (h : mmH) : Prop := kM kc (1 :: as) h (fun x h1 => kM km (282 :: as) h1 (fun y h2 => x = y ∧ Cq h2))
theorem tmodes : ∀ mi : Fin 263, (tMp mi.val).2.2.2.2.2 ≠ 0 → (tMp mi.val).2.2.2.1 = 0 ∧ (tMp mi.val).2.2.2.2.1 = 0 := by decide +kernel
theorem tmodeo : tMpL.length = 263 := by decide +kernel
theorem tmode (mi : Nat) (h : (tMp mi).2.2.2.2.2 ≠ 0) : (tMp mi).2.2.2.1 = 0 ∧ (tMp mi).2.2.2.2.1 = 0 := by
  by_cases q : mi < 263
  · exact tmodes ⟨mi, q⟩ h
  · have e : tMp mi = ([], 0, 99, 0, 0, 3) := by
      unfold tMp
      rw [List.getD_eq_getElem?_getD, List.getElem?_eq_none (by rw [tmodeo]; omega)]
      rfl
    rw [e]
    exact ⟨rfl, rfl⟩
theorem f100u {u : Int} (k i : Int) (h : (tSh k).1 = 100) : tFu u k i = none := by
  unfold tFu
  split
  · exact f100A k i h
  · exact f100B k i h
theorem w1_hi {k : Int} (hk : 282 ≤ k) : tWn 1 k = false := decide_eq_false (by omega)
theorem w2_lo {k : Int} (hk : k < 282) : tWn 2 k = false := decide_eq_false (by omega)
/-- behind the class's call -/
theorem LC_back {u : Int} {km : Nat} {as : List Int} {h h1 : mmH} {x : Int} (hu : u = 5 ∨ u = 46) (mm : (tMp km).2.2.2.2.2 = 2) (hM : mmInv tFM h) (hI1 : mmInv (tFu u) h1) (hh : ∀ k, 282 ≤ k → h1 k = h k)
    (hb : qC tFM 99 km (282 :: as) h1 (fun y h2 => x = y ∧ Cy u h1 h2)) : kM km (282 :: as) h1 (fun y h2 => x = y ∧ Cq h2) := by
  have M1 := inv_M hI1 hM hh
  refine mmC_mono _ _ _ _ _ _ (fun y h2 z => ?_) (mmRC_ok tmode tw0 tw3 f100M 99 km (282 :: as) h1 _ (by rw [mm]; decide) M1 hb)
  obtain ⟨⟨e, C2⟩, I2, k2⟩ := z
  rw [mm] at k2
  have lo : ∀ k, k < 282 → h2 k = h1 k := fun k q => k2 k (w2_lo q)
  exact ⟨e, u, (Cy_ext hu (fun k _ q => lo k q) (fun _ _ => rfl) C2).cp hu (inv_U hI1 I2 lo) I2⟩
theorem LC_of {u : Int} {kc km : Nat} {as : List Int} {h : mmH} (mc : (tMp kc).2.2.2.2.2 = 1) (mm : (tMp km).2.2.2.2.2 = 2) (hC : Cp u h h)
    (ha : qC (tFu u) 99 kc (1 :: as) h (fun x h1 => ∀ h0, Cp u h h0 → qC tFM 99 km (282 :: as) h0 (fun y h2 => x = y ∧ Cy u h1 h2))) : LC kc km as h := by
  have hu := hC.1
  refine mmC_mono _ _ _ _ _ _ (fun x h1 z => ?_) (mmRC_ok tmode tw0 tw3 f100u 99 kc (1 :: as) h _ (by rw [mc]; decide) hC.2.1.1 ha)
  obtain ⟨z, I1, k1⟩ := z
  rw [mc] at k1
  have hi : ∀ k, 282 ≤ k → h1 k = h k := fun k q => k1 k (w1_hi q)
  have M1 := inv_M I1 hC.2.1.2 hi
  exact LC_back hu mm hC.2.1.2 I1 hi (z h1 ((Cy_ext hu (fun _ _ _ => rfl) hi hC.y).cp hu hC.2.1.1 M1))
theorem LC_to {u : Int} {kc km : Nat} {as : List Int} {h : mmH} (mc : (tMp kc).2.2.2.2.2 = 1) (mm : (tMp km).2.2.2.2.2 = 2) (hC : Cp u h h)
    (ha : qC tFN 99 kc (1 :: as) h (fun x h1 => ∃ u', (u' = 5 ∨ u' = 46) ∧ mmInv (tFu u') h1 ∧ ∀ h0, Cp u h h0 → qC tFM 99 km (282 :: as) h0 (fun y h2 => x = y ∧ Cy u' h1 h2))) : LC kc km as h := by
  have hu := hC.1
  refine mmC_mono _ _ _ _ _ _ (fun x h1 z => ?_) (mmRC_ok tmode tw0 tw3 (fun _ _ _ => rfl) 99 kc (1 :: as) h _ (by rw [mc]; decide) (fun _ _ _ e => by cases e) ha)
  obtain ⟨⟨u', hu', I1, z⟩, -, k1⟩ := z
  rw [mc] at k1
  have hi : ∀ k, 282 ≤ k → h1 k = h k := fun k q => k1 k (w1_hi q)
  -- the class's old cells, the reference's new ones
  exact LC_back hu' mm hC.2.1.2 I1 hi (z h1 ((Cy_ext hu (fun _ _ _ => rfl) hi hC.y).cp hu hC.2.1.1 (inv_M I1 hC.2.1.2 hi)))
