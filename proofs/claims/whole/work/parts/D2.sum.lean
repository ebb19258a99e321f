/-! ===== mm: a whole sum, in lockstep ===== -/
section SM
variable {d e : Nat} {v n0 z0 s o b c k was : Int} {m g g' h h' : mmH} {Q : Int → mmH → Prop} {W P : List Int}
theorem S_part {inner : mmH → mmH} (hv : v = 5 ∨ v = 46) (hb0 : 0 ≤ b) (ho : 0 ≤ o ∧ o ≤ 6) (hin : o < 6 → SimS e v n0 z0 s b was m Q inner (o + 1)) (hi : ∀ g, Sc v g → Sc v (inner g)) (hst : ∀ g, Stk g (inner g)) (hF : ∀ g, Fr (ScK v) g (inner g)) : SimP e v n0 z0 s b was m Q (partF v inner o) o := by
  intro g h W hR hb h1 h2 w2 w3 w4
  have bd := RW_bd hR
  have hk : skH (skH g) = skH g := skd_id (skd_sk hR.1.2.1.2.1.2.1)
  have sg := (skH_at hR.1.2.1).1
  have pk := (pl_sk hv hR.1.2.1 (by rw [skH_30]; exact hR.1.1)).2.2.1
  have S1 := Sc_sk hv hR.1.2.1
  have ok1 : skH g 3 0 = 0 := by rw [skH_30]; exact hR.1.1
  have un : partF v inner o g = if isDg (hrV (skH g)) = true then putT v (nuV (skH g)) (nuH 0 9999 (skH g)) else
      if hrV (skH g) = 40 then (if mayH o (skH g) 3 0 ≠ 0 then mayH o (skH g) else tsH 41 (inner (tsH 40 (mayH o (skH g))))) else
      if wdV (skH g) = 27 ∨ wdV (skH g) = 28 then putT v (10200 + wdV (skH g)) (pairF inner o (psH (skH g))) else
      if isFc (wdV (skH g)) = true then putT v (10200 + wdV (skH g)) (psH (skH g)) else flH 1 (skH g 3 4) (skH g) := by
    unfold partF
    rw [if_neg (by have := hR.1.1; omega), hk]
  rw [un] at h1 h2
  clear un
  generalize hG : skH g = G at hk sg pk S1 ok1 h1 h2
  have bS := S1.2.1
  refine T_m_onePart_1 _ _ _ _ _ _ _ _ _ ⟨fun q => absurd q (by omega), fun _ => ⟨fun q => absurd (RW_5 hR) q, fun _ => w_look hv hR (fun ha ra Ra => ?_)⟩⟩
  rw [hG] at ra Ra ⊢
  have ba := RW_bd Ra
  refine ⟨fun n40 => ?_, fun q40 => ?_⟩
  · -- words and numbers
    have word : ∀ (k : Int) (hw : mmH), wdV G = k → k = 27 ∨ k = 28 → RW v n0 z0 s o b m G hw W [] → qB tFM (e + 4) k_m_onePart n0 z0 (sQ1 e n0 z0 was Q) 3 [(3, 282), (1, 1), (1, hrV G), w3, w4] [] hw := fun k hw ek kk Rw => by
      have l1 := ps_len S1 ek (by omega)
      have S2 := Sc_ps hv S1
      have ok2 : psH G 3 0 = 0 := by unfold psH; rw [mmS_slot, if_neg (by omega), mmS_slot, if_neg (by omega)]; exact ok1
      have p1 := (pl_ps hv S1 ok2).2.2.1
      have hk2 : skH (skH (psH G)) = skH (psH G) := skd_id (skd_sk S2.2.1.2.1)
      have sg2 := (skH_at S2).1
      have pk2 := (pl_sk hv S2 (by rw [skH_30]; exact ok2)).2.2.1
      have S3 := Sc_sk hv S2
      have nd : ¬ isDg (hrV G) = true := fun q => by
        have hl : G 3 4 < G 3 3 := hr_lt (t := G) rfl (fun z => by rw [z] at q; exact absurd q (by decide))
        have := dg_wd q hl
        omega
      rw [if_neg nd, if_neg n40, if_pos (by rw [ek]; exact kk), ek] at h1 h2
      have epf : pairF inner o (skH (psH G)) = pairF inner o (psH G) := by unfold pairF; rw [hk2]
      rw [← epf] at h1 h2
      have bS3 := S3.2.1
      have fin : ∀ (v3 : Int) (hx : mmH), (v3 ≠ 0 ↔ k = 27) → RS True (skH (psH G)) hx → RW v n0 z0 s o b m (skH (psH G)) hx W [] → ∀ s0, s0 = (if hrV (skH (psH G)) = 40 then skH (psH G) 3 4 else -1) → qB tFM (e + 4) k_m_onePart n0 z0 (sQ1 e n0 z0 was Q) 6 [(3, 282), (1, 1), (1, hrV G), (1, v3), w4] [(1, s0)] hx := fun v3 hx e3 rx Rx s0 e0 =>
        E_6 (t := 10200 + k) (w := k - 6) hv hb0 ho hk2 rx Rx (by rw [pk2, p1]; omega) hb (by rcases kk with z | z <;> omega) (by omega) e0 hin hi hst hF h1 h2
      have look : ∀ (v3 : Int) (hx : mmH), (v3 ≠ 0 ↔ k = 27) → RW v n0 z0 s o b m (psH G) hx W [] → qC tFM (e + 4) k_m_look [282] hx (fun x2 h2 => (x2 ≠ 40 → qB tFM (e + 4) k_m_onePart n0 z0 (sQ1 e n0 z0 was Q) 6 [(3, 282), (1, 1), (1, hrV G), (1, v3), w4] [(1, (-1))] h2) ∧ (¬ (x2 ≠ 40) → qB tFM (e + 4) k_m_onePart n0 z0 (sQ1 e n0 z0 was Q) 6 [(3, 282), (1, 1), (1, hrV G), (1, v3), w4] [(1, (h2 282 2))] h2)) := fun v3 hx e3 Rx =>
        w_look hv Rx (fun hy ry Ry => ⟨fun q => fin v3 hy e3 ry Ry _ (by rw [if_neg q]), fun q => fin v3 hy e3 ry Ry _ (by rw [if_pos (by omega)]; exact (ry.2.2.2.2 Ry.1.1).1)⟩)
      refine T_m_onePart_3 _ _ _ _ _ _ _ _ _ (w_takes (k := 27) hv (by omega) (by omega) Rw (fun hx nx Rx => ⟨fun q => absurd rfl q, fun _ => ?_⟩) (fun hx ex Rx => ⟨fun _ => ?_, fun q => absurd q (by omega)⟩))
      · rw [hk] at nx Rx
        have k28 : k = 28 := by omega
        have et : twH 28 G = psH G := by unfold twH; rw [hk, if_pos (by omega)]
        refine w_asks (k := 28) hv (by omega) (by omega) Rx (fun hy _ Ry => ?_) (fun hy B => absurd (by rw [et]; exact ok2) B.1.1)
        rw [et] at Ry
        exact look 0 hy (by omega) Ry
      · rw [hk] at ex Rx
        exact look 1 hx (by omega) Rx
    refine w_isHere (k := 27) hv (by omega) (by omega) Ra (fun x hb' y Rb => ?_)
    rw [hk] at y Rb
    refine ⟨fun q => word 27 hb' (y.pos q) (Or.inl rfl) Rb, fun q => w_isHere (k := 28) hv (by omega) (by omega) Rb (fun x2 hc y2 Rc => ?_)⟩
    rw [hk] at y2 Rc
    refine ⟨fun q2 => ?_, fun q2 => word 28 hc (y2.pos q2) (Or.inr rfl) Rc⟩
    have n27 : ¬ wdV G = 27 := y.neg (by omega)
    have n28 : ¬ wdV G = 28 := y2.neg q2
    refine T_m_onePart_1 _ _ _ _ _ _ _ _ _ ⟨fun _ => E_12 hv hk Rc ?_ h1 h2, fun q => absurd rfl q⟩
    by_cases dg : isDg (hrV G) = true
    · rw [if_pos dg, if_pos dg]
    · rw [if_neg dg, if_neg dg, if_neg n40, if_neg (fun z => by omega)]
  · -- a bracket
    have e40 : hrV G = 40 := by omega
    have hl := hr_lt e40 (by omega)
    have nd : ¬ isDg (hrV G) = true := by rw [e40]; decide
    rw [if_neg nd, if_pos e40] at h1 h2
    have e0 : ha 282 2 = G 3 4 := (ra.2.2.2.2 Ra.1.1).1
    refine q_m_opens hv ho Ra ra (fun o5 hb' eh => ?_) (fun hb' o6 B => ?_)
    · have em : mayH o G = G := by unfold mayH; rw [if_pos o5]
      have ets : tsH 40 G = stpH G := by unfold tsH; rw [hk, if_pos e40]
      rw [em, if_neg (by omega), ets] at h1 h2
      have e2 : hb' 282 2 = G 3 4 := by
        rw [eh, mmS_slot, if_neg (by omega), mmS_cell (by omega), mmS_slot, if_neg (by omega)]
        exact e0
      rw [e2, mAdd_ok (by omega) (by omega)]
      have R2 := RW_open hv Ra ra hl eh
      have Sd := hi _ R2.1.2.1
      have Se := Sc_ts (c := 41) hv (by omega) Sd
      refine (hin o5) _ _ (20 :: W) R2 (by rw [List.length_cons]; omega) ⟨by show (20 : Int) ≠ 1; omega, by show (20 : Int) ≠ 2; omega, by show (20 : Int) ≠ 3; omega, by show (20 : Int) ≠ 4; omega⟩ (fun hd P Rd hP hn => ?_) (fun hd B => ?_) _ _ _
      · refine A_shut hv hb0 (w := 20) (by omega) hb ⟨ho.1, o5⟩ Rd hP hn (fun he Re => h1 _ ?_) (fun he B => h2 _ (BD_le B (by omega)))
        rw [if_pos rfl] at Re
        exact Re
      · exact h2 _ (BD_gone hv B sk_ts fr_ts Se)
    · have em : mayH o G = flH 4 (ha 282 2) G := by unfold mayH; rw [if_neg (by omega), e0]
      rw [em, if_pos (fl_bad (by omega))] at h2
      exact E_bad (BD_at B) (h2 _ (BD_le (BD_at B) (by omega)))
theorem AdT_p (hv : v = 5 ∨ v = 46) {n : Nat} (h7 : 6 ≤ n + o) (h6 : o ≤ 6) (hS : Sc v g) (hD : g (v + 33) 1 ≤ g 3 4) : AdT v (3 * n + 1) false g (partF v (smL v n (o + 1)) o g) := by
  by_cases z : o < 6
  · exact AdT_part hv (Sc_sm hv n (o + 1)) (sk_sm n (o + 1)) (fun b q3 q4 => AdT_sm hv n (o + 1) b (by omega) (by omega) (by omega) q3 q4) hS hD
  · have e : partF v (smL v n (o + 1)) o g = partF v (fun g => flH 1 0 g) o g := by
      have hmz : ∀ s, mayH o s 3 0 ≠ 0 := fun s q => z (mayH_ok q).1
      unfold partF pairF
      rw [if_pos (hmz _), if_pos (hmz _), if_pos (hmz _), if_pos (hmz _)]
    rw [e]
    exact AdT_part (di := 3 * n) hv (fun _ q => Sc_fl hv q) (fun _ => sk_fl) (fun b _ _ ok => absurd ok (fl_bad (by decide))) hS hD
theorem S_sm (hv : v = 5 ∨ v = 46) (hb0 : 0 ≤ b) : ∀ (n : Nat) (o : Int), 0 ≤ o → o ≤ 6 → 6 ≤ o + n → SimS e v n0 z0 s b was m Q (smL v (n + 1) o) o := by
  have step : ∀ (n : Nat) (o : Int), 0 ≤ o → o ≤ 6 → 6 ≤ o + n → (o < 6 → SimS e v n0 z0 s b was m Q (smL v n (o + 1)) (o + 1)) → SimS e v n0 z0 s b was m Q (smL v (n + 1) o) o := fun n o o1 o2 o3 hin => by
    have hi := Sc_sm (v := v) hv n (o + 1)
    have Sp := S_part (o := o) hv hb0 ⟨o1, o2⟩ hin hi (sk_sm n (o + 1)) (fr_sm n (o + 1))
    have hF : ∀ g, Fr (ScK v) g (partF v (smL v n (o + 1)) o g) := fun g => fr_part (fr_sm n (o + 1))
    have hS : ∀ g, Sc v g → Sc v (partF v (smL v n (o + 1)) o g) := fun g q => Sc_part hv hi q
    have Sd := S_prd hv hb0 Sp hS hF (fun g q1 q2 q3 => (AdT_p hv (by omega) (by omega) q1 q2 q3).1.2.1)
    exact S_sum hv hb0 Sd hS hF (fun g q1 q2 q3 => (AdT_prd hv hS (fun _ => sk_part) (fun a q4 q5 => AdT_p hv (by omega) (by omega) q4 q5) q1 q2 q3).1.2.1)
  intro n
  induction n with
  | zero => exact fun o o1 o2 o3 => step 0 o o1 o2 o3 (fun z => absurd z (by omega))
  | succ n ih => exact fun o o1 o2 o3 => step (n + 1) o o1 o2 o3 (fun z => ih (o + 1) (by omega) (by omega) (by omega))
end SM
