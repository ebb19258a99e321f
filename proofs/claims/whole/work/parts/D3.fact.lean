/-! ===== mm: a sum from its first byte to its last; a fact ===== -/
section FA
variable {d e : Nat} {v n0 z0 s o b b' c k was : Int} {m g g' h h' : mmH} {Q : Int → mmH → Prop} {W P : List Int}
theorem RW_base (hR : RW v n0 z0 s o b m g h W P) : RW v n0 z0 s o b' m g (mmS h 282 57 b') W P := by
  obtain ⟨⟨a1, a2, a3⟩, ⟨a4, a5⟩, ⟨a6, a7⟩, ⟨a9, a10⟩, a11, ⟨a12, a13⟩, a14, a15⟩ := hR
  have z : ∀ k i, ¬ (k = 282 ∧ i = 57) → mmS h 282 57 b' k i = h k i := fun k i q => by
    by_cases e : k = 282
    · subst e; rw [mmS_slot, if_neg (by omega)]
    · rw [mmS_cell e]
  refine ⟨⟨a1, a2, RB_out a3 (fun k i q => z k i (by omega))⟩, ⟨⟨by rw [z 0 0 (by omega)]; exact a4.1, by rw [z 0 1 (by omega)]; exact a4.2⟩, a5.put (Or.inr (by omega))⟩, ⟨by rw [z 282 52 (by omega)]; exact a6, wst_congr _ (fun i _ _ => z 323 i (by omega)) a7⟩, ⟨by rw [z 282 53 (by omega)]; exact a9, by rw [mmS_slot, if_pos rfl]⟩, a11, ⟨by rw [z 282 50 (by omega)]; exact a12, a13⟩, fun j j1 j2 => ?_, a15⟩
  rw [z 322 j (by omega)]
  exact a14 j j1 j2
theorem BD_base (hB : BD v n0 z0 c m g h) : BD v n0 z0 c m g (mmS h 282 57 b') := by
  obtain ⟨⟨a1, a2, a3⟩, ⟨a4, a5⟩, a6, a7⟩ := hB
  have z : ∀ k i, ¬ (k = 282 ∧ i = 57) → mmS h 282 57 b' k i = h k i := fun k i q => by
    by_cases e : k = 282
    · subst e; rw [mmS_slot, if_neg (by omega)]
    · rw [mmS_cell e]
  refine ⟨⟨a1, a2, RS_out a3 (fun _ _ _ => rfl) (fun k i q => z k i (by omega))⟩, ⟨⟨by rw [z 0 0 (by omega)]; exact a4.1, by rw [z 0 1 (by omega)]; exact a4.2⟩, a5.put (Or.inr (by omega))⟩, ?_⟩
  rw [z 282 50 (by omega)]
  exact ⟨a6, a7⟩
theorem RW_s {s' : Int} (hR : RW v n0 z0 s o b m g h W P) (h0 : 2 ≤ s') (h1 : g (v + 33) 1 + W.length + s' ≤ g 3 4) : RW v n0 z0 s' o b m g h W P := by
  obtain ⟨a1, a2, a3, a4, a11, a12⟩ := hR
  exact ⟨a1, a2, a3, a4, ⟨h1, h0⟩, a12⟩
/-- back before the blanks -/
theorem RW_unsk {s' : Int} (hv : v = 5 ∨ v = 46) (h0 : RW v n0 z0 s' o b m g h' W P) (hR : RW v n0 z0 s o b m (skH g) h W P) : RW v n0 z0 s' o b m g h W P := by
  have e1 : skH g (v + 33) = g (v + 33) := by unfold skH; rw [mmS_row (by omega)]
  have e2 : skH g (v + 38) = g (v + 38) := by unfold skH; rw [mmS_row (by omega)]
  obtain ⟨⟨c1, c2, c3⟩, _, _, _, c11, _⟩ := h0
  obtain ⟨⟨a1, a2, a3⟩, a4, a6, a9, a11, a12, a14, a15⟩ := hR
  rw [e1] at a12 a14 a15
  rw [e2] at a14 a15
  refine ⟨⟨c1, c2, ?_⟩, a4, a6, a9, c11, a12, a14, a15⟩
  obtain ⟨g0, s0, e0, r0⟩ := a3
  exact ⟨g0, s0, by rw [e0, skd_id (skd_sk c2.2.1.2.1)], r0⟩
set_option maxRecDepth 100000 in
theorem L_drain (hv : v = 5 ∨ v = 46) {x : Int} (hb : b = (W.length : Int)) : ∀ (P : List Int) (h : mmH), RW v n0 z0 s o b m g h W P → (∀ h', RW v n0 z0 s o b m g h' W [] → sF was Q h') → qB tFM (e + 5) k_m_sumsTold n0 z0 Q 4 [(3, 282), (1, was), (1, x)] [] h
  | [], h, hR, hy => by
    have e1 : h 282 52 = (W.length : Int) := hR.2.2.1.1
    have e2 : h 282 57 = b := hR.2.2.2.1.2
    exact T_m_sumsTold_4 _ _ _ _ _ _ _ ⟨fun q => absurd (RW_5 hR) q, fun _ => ⟨fun _ => hy _ hR, fun q => absurd (show h 282 52 ≤ h 282 57 by omega) q⟩⟩
  | p :: P, h, hR, hy => by
    have e1 : h 282 52 = ((P ++ W).length : Int) + 1 := by rw [hR.2.2.1.1]; show (((P ++ W).length + 1 : Nat) : Int) = _; omega
    have el : ((P ++ W).length : Int) = (P.length : Int) + W.length := by rw [List.length_append]; omega
    have e2 : h 282 57 = b := hR.2.2.2.1.2
    exact T_m_sumsTold_4 _ _ _ _ _ _ _ ⟨fun q => absurd (RW_5 hR) q, fun _ => ⟨fun q => absurd q (by omega), fun _ => q_m_drops hv hR (fun h' R => L_drain hv hb P h' R hy)⟩⟩
set_option maxRecDepth 100000 in
theorem q_m_sums (hv : v = 5 ∨ v = 46) (ho : 0 ≤ o ∧ o ≤ 6) (hW : tp W ≠ 1 ∧ tp W ≠ 2 ∧ tp W ≠ 3 ∧ tp W ≠ 4) (hR : RW v n0 z0 s o b m g h W []) (h1 : ∀ h', RW v n0 z0 s o b m (smL v 7 o g) h' W [] → Q 0 h') (h2 : ∀ h', BD v n0 z0 (1601 - s) m (smL v 7 o g) h' → Q 0 h') : qC tFM (e + 6) k_m_sumsTold [282] h Q := by
  refine qC_intro ?_
  have k0 := hR.2.1.1
  rw [k0.1, k0.2]
  have e1 : h 282 52 = (W.length : Int) := hR.2.2.1.1
  have e2 : h 282 57 = b := hR.2.2.2.1.2
  refine T_m_sumsTold_0 _ _ _ _ _ ?_
  rw [e1, e2]
  have R1 : RW v n0 z0 s o (W.length : Int) m g (mmS h 282 57 (W.length : Int)) W [] := RW_base hR
  refine s_E (e := e) R1 (S_sm hv (by omega) 6 o ho.1 ho.2 (by omega) g _ W R1 (by omega) hW (fun h' P R hP hn => ?_) (fun h' B => h2 _ (BD_base B)))
  generalize smL v 7 o g = G at R hn h1
  have hm : mkT (W.length : Int) (P ++ W) = -1 := by rw [mk_pass P (fun q hq => by have := hP q hq; omega) (by omega), mk_none (by omega)]
  have hk : skH (skH G) = skH G := skd_id (skd_sk R.1.2.1.2.1.2.1)
  refine A_0 hv (by omega) R hm (fun _ z => absurd z (by omega)) (fun _ ha Ra => A_4no hv (by omega) hk Ra hn hm (fun z => absurd z (by omega)) (fun _ hb Rb => ?_) (fun _ _ z => absurd rfl z))
  have Rc : RW v n0 z0 s o (W.length : Int) m G hb W P := RW_unsk hv R Rb
  refine ⟨fun _ => ?_, fun q => absurd rfl q⟩
  exact T_m_sumsTold_1 _ _ _ _ _ _ _ ⟨fun _ => L_drain hv rfl P hb Rc (fun h' R' => h1 _ (RW_base R')), fun q => absurd rfl q⟩
def ftF (v o : Int) (g : mmH) : mmH := if wdV (skH g) = 26 then putT v 10226 (psH (skH g)) else cmpF v (smL v 7 o) (skH g)
set_option maxRecDepth 100000 in
theorem q_m_fact (hv : v = 5 ∨ v = 46) (ho : 0 ≤ o ∧ o ≤ 6) (hW : tp W ≠ 1 ∧ tp W ≠ 2 ∧ tp W ≠ 3 ∧ tp W ≠ 4) (hR : RW v n0 z0 s o b m g h W []) (h1 : ∀ h', RW v n0 z0 s o b m (ftF v o g) h' W [] → Q 0 h') (h2 : ∀ h', BD v n0 z0 (1602 - s) m (ftF v o g) h' → Q 0 h') : qC tFM (e + 7) k_m_fact [282] h Q := by
  have bd := RW_bd hR
  have sg := (skH_at hR.1.2.1).1
  have pk := (pl_sk hv hR.1.2.1 (by rw [skH_30]; exact hR.1.1)).2.2.1
  have S1 := Sc_sk hv hR.1.2.1
  refine qC_intro ?_
  have k0 := hR.2.1.1
  rw [k0.1, k0.2]
  unfold ftF at h1 h2
  refine T_m_fact_0 _ _ _ _ _ (w_takes (k := 26) hv (by omega) (by omega) hR (fun ha na Ra => ⟨fun _ => ?_, fun q => absurd rfl q⟩) (fun ha ea Ra => ⟨fun q => absurd q (by omega), fun _ => ?_⟩))
  · rw [if_neg na] at h1 h2
    unfold cmpF at h1 h2
    refine q_m_sums (e := e) hv ho hW Ra (fun hb Rb => ?_) (fun hb B => ⟨fun q => absurd q (BD_5 B), fun _ => h2 _ ?_⟩)
    · refine ⟨fun _ => w_look hv Rb (fun hc rc Rc => ?_), fun q => absurd (RW_5 Rb) q⟩
      generalize smL v 7 o (skH g) = G at h1 h2 Rb rc Rc
      have S2 := Sc_sk hv Rb.1.2.1
      have e0 : hc 282 2 = skH G 3 4 := (rc.2.2.2.2 Rc.1.1).1
      have three : hrV (skH G) = 60 ∨ hrV (skH G) = 62 ∨ hrV (skH G) = 61 → qB tFM (e + 6) k_m_fact n0 z0 Q 3 [(3, 282), (1, hrV (skH G))] [] hc := fun cc => by
        rw [if_pos cc] at h1 h2
        have hl := hr_lt (t := skH G) rfl (by omega)
        have S3 := Sc_stp hv S2 hl
        have bc := RW_bd Rc
        have es : stpH (skH G) 3 4 = skH G 3 4 + 1 := by unfold stpH; rw [mmS_slot, if_pos rfl]
        have es2 : stpH (skH G) (v + 33) 1 = skH G (v + 33) 1 := by unfold stpH; rw [mmS_cell (by omega)]
        have ok3 : stpH (skH G) 3 0 = 0 := by unfold stpH; rw [mmS_slot, if_neg (by omega)]; exact Rc.1.1
        have Rd : RW v n0 z0 s o b m (stpH (skH G)) (mmS hc 282 2 (skH G 3 4 + 1)) W [] := RW_scan Rc ok3 S3 (RB_of S3 (RS_at rc)) (Fr.rf.put (by unfold MsK; omega)) (pl_stp hv)
        have Re := RW_s (s' := s + 1) Rd (by omega) (by rw [es, es2]; omega)
        refine T_m_fact_3 _ _ _ _ _ _ ?_
        rw [e0, mAdd_ok (by omega) (by omega)]
        refine q_m_sums (e := e) hv ho hW Re (fun hf Rf => ?_) (fun hf B => ?_)
        · have bf := RW_bd Rf
          have Rg := RW_s (s' := s) Rf (by omega) (by omega)
          refine ⟨fun c1 => ⟨fun c2 => ?_, fun c2 => ?_⟩, fun c1 => ?_⟩
          · exact q_m_code (t := 10000 + hrV (skH G)) hv Rg (by omega) (by rw [show hrV (skH G) = 61 by omega]; rfl) (fun h' R => h1 _ R)
          · exact q_m_code (t := 10000 + hrV (skH G)) hv Rg (by omega) (by rw [show hrV (skH G) = 62 by omega]; rfl) (fun h' R => h1 _ R)
          · exact q_m_code (t := 10000 + hrV (skH G)) hv Rg (by omega) (by rw [show hrV (skH G) = 60 by omega]; rfl) (fun h' R => h1 _ R)
        · have fin : ∀ h', BD v n0 z0 (1601 - (s + 1) + 1) m (smL v 7 o (stpH (skH G))) h' → Q 0 h' := fun h' B2 => h2 _ (BD_gone hv (BD_le B2 (by omega)) (sk_put hv) fr_put (Sc_put hv B2.1.2.1))
          exact ⟨fun c1 => ⟨fun c2 => BD_code (by omega) B fin, fun c2 => BD_code (by omega) B fin⟩, fun c1 => BD_code (by omega) B fin⟩
      refine ⟨fun c1 => three (Or.inl c1), fun c1 => ⟨fun c2 => three (Or.inr (Or.inl c2)), fun c2 => ⟨fun c3 => three (Or.inr (Or.inr c3)), fun c3 => ?_⟩⟩⟩
      rw [if_neg (fun z => by omega), ← e0] at h2
      exact w_fail hv (by omega) Rc rc (fun h' B => h2 _ (BD_le B (by omega)))
    · generalize smL v 7 o (skH g) = G at h2 B ⊢
      have SB := B.1.2.1
      by_cases cc : hrV (skH G) = 60 ∨ hrV (skH G) = 62 ∨ hrV (skH G) = 61
      · rw [if_pos cc]
        have S3 := Sc_sm hv 7 o _ (Sc_stp hv (Sc_sk hv SB) (hr_lt (t := skH G) rfl (by omega)))
        exact BD_gone hv (BD_le B (by omega)) (((sk_sk.tr sk_stp).tr (sk_sm 7 o _)).tr (sk_put hv)) (((fr_sk.tr fr_stp).tr (fr_sm 7 o _)).tr fr_put) (Sc_put hv S3)
      · rw [if_neg cc]
        exact BD_gone hv (BD_le B (by omega)) (sk_sk.tr sk_fl) (fr_sk.tr fr_fl) (Sc_fl hv (Sc_sk hv SB))
  · rw [if_pos ea] at h1 h2
    have l1 := ps_len S1 ea (by omega)
    have p1 := (pl_ps hv S1 Ra.1.1).2.2.1
    exact q_m_code (t := 10226) hv Ra (by rw [p1]; omega) rfl (fun h' R => h1 _ R)
end FA
