/-! ===== mm: one operand ===== -/
def sQ2 (e : Nat) (n0 z0 was : Int) (Q : Int → mmH → Prop) : Int → mmH → Prop := fun x h => (x = 0 → qB tFM (e + 5) k_m_sumsTold n0 z0 Q 1 [(3, 282), (1, was), (1, 0)] [] h) ∧ (¬ (x = 0) → qB tFM (e + 5) k_m_sumsTold n0 z0 Q 1 [(3, 282), (1, was), (1, 1)] [] h)
def sQ1 (e : Nat) (n0 z0 was : Int) (Q : Int → mmH → Prop) : Int → mmH → Prop := fun _ h => ((h 282 5) ≠ 0 → qB tFM (e + 5) k_m_sumsTold n0 z0 Q 1 [(3, 282), (1, was), (1, 0)] [] h) ∧ (¬ ((h 282 5) ≠ 0) → qC tFM (e + 5) k_m_goesOn [282] h (sQ2 e n0 z0 was Q))
def sE (e : Nat) (n0 z0 was : Int) (Q : Int → mmH → Prop) (h : mmH) : Prop := ∀ w2 w3 w4 : mmV, qB tFM (e + 4) k_m_onePart n0 z0 (sQ1 e n0 z0 was Q) 1 [(3, 282), (1, 1), w2, w3, w4] [] h
def sA (e : Nat) (n0 z0 was : Int) (Q : Int → mmH → Prop) (h : mmH) : Prop := qB tFM (e + 4) k_m_goesOn n0 z0 (sQ2 e n0 z0 was Q) 0 [(3, 282), (0, 0)] [] h
def sF (was : Int) (Q : Int → mmH → Prop) (h : mmH) : Prop := Q 0 (mmS h 282 57 was)
section PT
variable {e : Nat} {v n0 z0 s o b c k was : Int} {m g g' h h' : mmH} {Q : Int → mmH → Prop} {W P : List Int}
theorem s_E (hR : RW v n0 z0 s o b m g h W P) (hE : sE e n0 z0 was Q h) : qB tFM (e + 5) k_m_sumsTold n0 z0 Q 1 [(3, 282), (1, was), (1, 1)] [] h := by
  refine T_m_sumsTold_1 _ _ _ _ _ _ _ ⟨fun q => absurd q (by omega), fun _ => ⟨fun q => absurd (RW_5 hR) q, fun _ => ?_⟩⟩
  show qC tFM (e + 5) k_m_onePart [282] h (sQ1 e n0 z0 was Q)
  refine qC_intro ?_
  rw [hR.2.1.1.1, hR.2.1.1.2]
  exact T_m_onePart_0 _ _ _ _ _ (hE _ _ _)
theorem s_E2 (hR : RW v n0 z0 s o b m g h W P) (hE : sE e n0 z0 was Q h) : sQ2 e n0 z0 was Q 1 h := ⟨fun q => absurd q (by omega), fun _ => s_E hR hE⟩
theorem s_A {x : Int} (hR : RW v n0 z0 s o b m g h W P) (hA : sA e n0 z0 was Q h) : sQ1 e n0 z0 was Q x h := by
  refine ⟨fun q => absurd (RW_5 hR) q, fun _ => qC_intro ?_⟩
  rw [hR.2.1.1.1, hR.2.1.1.2]
  exact hA
theorem s_F1 {x : Int} (hB : BD v n0 z0 c m g h) (hF : sF was Q h) : qB tFM (e + 5) k_m_sumsTold n0 z0 Q 1 [(3, 282), (1, was), (1, x)] [] h := by
  have b4 : qB tFM (e + 5) k_m_sumsTold n0 z0 Q 4 [(3, 282), (1, was), (1, x)] [] h := T_m_sumsTold_4 _ _ _ _ _ _ _ ⟨fun _ => hF, fun q => absurd (BD_5 hB) q⟩
  exact T_m_sumsTold_1 _ _ _ _ _ _ _ ⟨fun _ => b4, fun _ => ⟨fun _ => b4, fun q => absurd (BD_5 hB) q⟩⟩
theorem s_F {x : Int} (hB : BD v n0 z0 c m g h) (hF : sF was Q h) : sQ1 e n0 z0 was Q x h := ⟨fun _ => s_F1 hB hF, fun q => absurd (BD_5 hB) q⟩
theorem s_F2 (hB : BD v n0 z0 c m g h) (hF : sF was Q h) : sQ2 e n0 z0 was Q 0 h := ⟨fun _ => s_F1 hB hF, fun q => absurd rfl q⟩
theorem E_bad {x : Int} {w2 w3 w4 : mmV} (hB : BD v n0 z0 c m g h) (hF : sF was Q h) : qB tFM (e + 4) k_m_onePart n0 z0 (sQ1 e n0 z0 was Q) 1 [(3, 282), (1, x), w2, w3, w4] [] h := by
  have b12 : qB tFM (e + 4) k_m_onePart n0 z0 (sQ1 e n0 z0 was Q) 12 [(3, 282), (1, x), w2, w3, w4] [] h := T_m_onePart_12 _ _ _ _ _ _ _ _ _ ⟨fun q => absurd q (BD_5 hB), fun _ => s_F hB hF⟩
  exact T_m_onePart_1 _ _ _ _ _ _ _ _ _ ⟨fun _ => b12, fun _ => ⟨fun _ => b12, fun q => absurd (BD_5 hB) q⟩⟩
/-- what a whole sum told inside does, on both sides -/
def SimS (e : Nat) (v n0 z0 s b was : Int) (m : mmH) (Q : Int → mmH → Prop) (p : mmH → mmH) (o : Int) : Prop :=
  ∀ g h W, RW v n0 z0 s o b m g h W [] → b ≤ (W.length : Int) → (tp W ≠ 1 ∧ tp W ≠ 2 ∧ tp W ≠ 3 ∧ tp W ≠ 4) →
    (∀ h' P, RW v n0 z0 s o b m (p g) h' W P → (∀ q ∈ P, 1 ≤ q ∧ q ≤ 4) → (hrV (skH (p g)) ≠ 42 ∧ hrV (skH (p g)) ≠ 47 ∧ hrV (skH (p g)) ≠ 43 ∧ hrV (skH (p g)) ≠ 45) → sA e n0 z0 was Q h') →
    (∀ h', BD v n0 z0 (1601 - s) m (p g) h' → sF was Q h') → sE e n0 z0 was Q h
def SimD (e : Nat) (v n0 z0 s b was : Int) (m : mmH) (Q : Int → mmH → Prop) (p : mmH → mmH) (o : Int) : Prop :=
  ∀ g h W, RW v n0 z0 s o b m g h W [] → b ≤ (W.length : Int) → (tp W ≠ 3 ∧ tp W ≠ 4) →
    (∀ h' P, RW v n0 z0 s o b m (p g) h' W P → (∀ q ∈ P, q = 3 ∨ q = 4) → (hrV (skH (p g)) ≠ 42 ∧ hrV (skH (p g)) ≠ 47) → sA e n0 z0 was Q h') →
    (∀ h', BD v n0 z0 (1601 - s) m (p g) h' → sF was Q h') → sE e n0 z0 was Q h
def SimP (e : Nat) (v n0 z0 s b was : Int) (m : mmH) (Q : Int → mmH → Prop) (p : mmH → mmH) (o : Int) : Prop :=
  ∀ g h W, RW v n0 z0 s o b m g h W [] → b ≤ (W.length : Int) →
    (∀ h', RW v n0 z0 s o b m (p g) h' W [] → sA e n0 z0 was Q h') →
    (∀ h', BD v n0 z0 (1601 - s) m (p g) h' → sF was Q h') → sE e n0 z0 was Q h
/-- the closing sign behind a sum in brackets -/
theorem A_shut {w : Int} (hv : v = 5 ∨ v = 46) (hb0 : 0 ≤ b) (hw : w = 20 ∨ w = 23 ∨ w = 24) (hb : b ≤ (W.length : Int)) (ho : 0 ≤ o ∧ o < 6) (hR : RW v n0 z0 s (o + 1) b m g h (w :: W) P) (hP : ∀ q ∈ P, 1 ≤ q ∧ q ≤ 4) (hn : hrV (skH g) ≠ 42 ∧ hrV (skH g) ≠ 47 ∧ hrV (skH g) ≠ 43 ∧ hrV (skH g) ≠ 45)
    (hy : ∀ h', RW v n0 z0 s o b m (if w = 20 then tsH 41 g else putT v (10204 + w) (tsH 41 g)) h' W [] → sA e n0 z0 was Q h') (h2 : ∀ h', BD v n0 z0 (1600 - s) m (tsH 41 g) h' → sF was Q h') : sA e n0 z0 was Q h := by
  have hP2 : ∀ q ∈ P, q < 20 := fun q hq => by have := hP q hq; omega
  have hm : mkT b (P ++ (w :: W)) = w := by rw [mk_pass P hP2 (by rw [List.length_cons]; omega), mk_top (by omega) hb]
  have hk : skH (skH g) = skH g := skd_id (skd_sk hR.1.2.1.2.1.2.1)
  refine A_0 hv hb0 hR hm (fun q1 _ h1 r1 R1 => ?_) (fun q1 h1 R1 => ?_)
  · have e1 : tsH 41 g = stpH (skH g) := by unfold tsH; rw [if_pos q1]
    rw [e1] at hy
    exact A_1 hv hw hb ho q1 r1 R1 hP2 hy
  · have q2 : ¬ hrV (skH g) = 41 := fun z => q1 ⟨z, hw⟩
    have e1 : tsH 41 g = flH 1 (skH g 3 4) (skH g) := by unfold tsH; rw [if_neg q2]
    rw [e1] at h2
    exact A_4no hv hb0 hk R1 hn hm (fun z => absurd z (by omega)) (fun z => absurd z (by omega)) (fun _ _ _ h' B => s_F2 B (h2 _ B))
/-- the comma between a pair's two -/
theorem A_comma {w : Int} (hv : v = 5 ∨ v = 46) (hb0 : 0 ≤ b) (hw : w = 21 ∨ w = 22) (hb : b ≤ (W.length : Int)) (hR : RW v n0 z0 s o b m g h (w :: W) P) (hP : ∀ q ∈ P, 1 ≤ q ∧ q ≤ 4) (hn : hrV (skH g) ≠ 42 ∧ hrV (skH g) ≠ 47 ∧ hrV (skH g) ≠ 43 ∧ hrV (skH g) ≠ 45)
    (hy : ∀ h', tsH 44 g 3 0 = 0 → RW v n0 z0 s o b m (tsH 44 g) h' ((w + 2) :: W) [] → sE e n0 z0 was Q h') (h2 : ∀ h', BD v n0 z0 (1600 - s) m (tsH 44 g) h' → sF was Q h') : sA e n0 z0 was Q h := by
  have hP2 : ∀ q ∈ P, q < 20 := fun q hq => by have := hP q hq; omega
  have hm : mkT b (P ++ (w :: W)) = w := by rw [mk_pass P hP2 (by rw [List.length_cons]; omega), mk_top (by omega) hb]
  have hk : skH (skH g) = skH g := skd_id (skd_sk hR.1.2.1.2.1.2.1)
  refine A_0 hv hb0 hR hm (fun _ z => absurd z (by omega)) (fun _ h1 R1 => ?_)
  refine A_4no hv hb0 hk R1 hn hm (fun _ h' R2 => ?_) (fun z => absurd z (by omega)) (fun z1 z2 => absurd hw (by omega))
  have et : tsH 44 (skH g) = tsH 44 g := by unfold tsH; rw [hk]
  refine A_19 hv hw hb R2 hP2 (fun h' ok R => ?_) (fun h' B => ?_)
  · rw [et] at ok R
    exact s_E2 R (hy _ ok R)
  · rw [et] at B
    exact s_F2 B (h2 _ B)
end PT
