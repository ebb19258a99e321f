/-! ===== mm: a fact, NOT, squares; a test from its first byte to its last ===== -/
section T7
variable {d e : Nat} {v n0 z0 s o b b' c k was : Int} {m g g' h h' : mmH} {Q : Int → mmH → Prop} {W P : List Int} {p : mmH → mmH}
set_option maxRecDepth 100000 in
theorem S_fact {fi ti : mmH → mmH} (hv : v = 5 ∨ v = 46) (ho : 0 ≤ o ∧ o ≤ 6) (hs : 3 ≤ s) (hif : o < 6 → SimF e v n0 z0 s b m Q fi (o + 1)) (hit : o < 6 → SimT e v n0 z0 s b m Q ti (o + 1)) (hi : ∀ g, Sc v g → Sc v (ti g)) : SimF e v n0 z0 s b m Q (fcF v fi ti (cmpF v (smL v 7 o)) o) o := by
  intro g h W hR hn h1 h2 w2
  have bd := RW_bd hR
  have hk : skH (skH g) = skH g := skd_id (skd_sk hR.1.2.1.2.1.2.1)
  have sg := (skH_at hR.1.2.1).1
  have pk := (pl_sk hv hR.1.2.1 (by rw [skH_30]; exact hR.1.1)).2.2.1
  have S1 := Sc_sk hv hR.1.2.1
  have ok1 : skH g 3 0 = 0 := by rw [skH_30]; exact hR.1.1
  have un : fcF v fi ti (cmpF v (smL v 7 o)) o g = if wdV (skH g) = 25 then (if mayH o (skH g) 3 0 ≠ 0 then mayH o (skH g) else putT v 10225 (fi (psH (mayH o (skH g))))) else
      if wdV (skH g) = 26 then putT v 10226 (psH (skH g)) else
      if hrV (skH g) = 91 then (if mayH o (skH g) 3 0 ≠ 0 then mayH o (skH g) else tsH 93 (ti (tsH 91 (mayH o (skH g))))) else cmpF v (smL v 7 o) (skH g) := by
    unfold fcF
    rw [if_neg (by have := hR.1.1; omega)]
  rw [un] at h1 h2
  clear un
  generalize hG : skH g = G at hk sg pk S1 ok1 h1 h2
  have bS := S1.2.1
  refine T_m_test_1 _ _ _ _ _ _ _ ⟨fun q => absurd q (by omega), fun _ => ⟨fun q => absurd (RW_5 hR) q, fun _ => w_look hv hR (fun ha ra Ra => ?_)⟩⟩
  rw [hG] at ra Ra ⊢
  have ba := RW_bd Ra
  refine ⟨fun n91 => ?_, fun q91 => ?_⟩
  · refine w_isHereR (d := e + 6) (k := 25) hv (by omega) (by omega) Ra (fun x hb y rb Rb => ?_)
    rw [hk] at y rb Rb
    refine ⟨fun q => ?_, fun q => ?_⟩
    · -- a compare, or all
      have n25 : ¬ wdV G = 25 := y.neg q
      have ef : (if wdV G = 25 then (if mayH o G 3 0 ≠ 0 then mayH o G else putT v 10225 (fi (psH (mayH o G)))) else if wdV G = 26 then putT v 10226 (psH G) else if hrV G = 91 then (if mayH o G 3 0 ≠ 0 then mayH o G else tsH 93 (ti (tsH 91 (mayH o G)))) else cmpF v (smL v 7 o) G) = ftF v o G := by
        unfold ftF
        rw [if_neg n25, hk]
        by_cases c26 : wdV G = 26
        · rw [if_pos c26, if_pos c26]
        · rw [if_neg c26, if_neg c26, if_neg n91]
      rw [ef] at h1 h2
      refine qC_le (d := e + 7) (by omega) (q_m_fact (e := e) hv ho hn Rb (fun hc Rc => ?_) (fun hc B => ?_))
      · refine qC_le (d := e + 7) (by omega) (qC_intro ?_)
        rw [Rc.2.1.1.1, Rc.2.1.1.2]
        refine h1 _ Rc _ (fun h' nm h5 hG' => ⟨fun z => absurd h5 z, fun _ => qC_intro ?_⟩)
        rw [nm.1, nm.2]
        exact qB_mono hG' (fun x5 h5' t => ⟨fun z => t.1 z _, fun z => t.2 z _⟩)
      · refine qC_intro (T_m_dropsNots_0 _ _ _ _ _ ⟨fun _ => ⟨fun _ => t_F1 B (h2 _ B), fun z => absurd (BD_5 B) z⟩, fun z => absurd (BD_5 B) z⟩)
    · -- NOT
      have c25 : wdV G = 25 := y.pos q
      rw [if_pos c25] at h1 h2
      have l1 := ps_len S1 c25 (by omega)
      have S2 := Sc_ps hv S1
      have ok2 : psH G 3 0 = 0 := by unfold psH; rw [mmS_slot, if_neg (by omega), mmS_slot, if_neg (by omega)]; exact ok1
      have p1 := (pl_ps hv S1 ok2).2.2.1
      have e2 : hb 282 2 = G 3 4 := (rb.2.2.2.2 ok1).1
      refine q_m_opens (d := e + 6) hv ho Rb rb (fun o5 hc eh => ?_) (fun hc o6 B => ?_)
      · have em : mayH o G = G := by unfold mayH; rw [if_pos o5]
        rw [em, if_neg (by omega)] at h1 h2
        have R1 : RW v n0 z0 (s - 1) o b m G hb W [] := RW_s Rb (by omega) (by omega)
        have R2 := RW_opn R1 (by omega) eh
        have et : twH 25 G = psH G := by unfold twH; rw [hk, if_pos c25]
        refine w_asks (d := e + 4) (k := 25) hv (by omega) (by omega) R2 (fun hd _ Rd => ?_) (fun hd B => absurd (by rw [et]; exact ok2) B.1.1)
        rw [et] at Rd
        have Re : RW v n0 z0 s (o + 1) b m (psH G) hd (17 :: W) [] := RW_s Rd (by omega) (by rw [List.length_cons, p1]; omega)
        refine hif o5 _ _ _ Re ⟨by show (17 : Int) ≠ 1; omega, by show (17 : Int) ≠ 2; omega, by show (17 : Int) ≠ 3; omega, by show (17 : Int) ≠ 4; omega⟩ (fun hf Rf => D_not hv ho Rf (fun h' R' => h1 h' R')) (fun hf B => h2 _ (BD_gone hv B (sk_put hv) fr_put (Sc_put hv B.1.2.1))) _
      · have em : mayH o G = flH 4 (hb 282 2) G := by unfold mayH; rw [if_neg (by omega), e2]
        rw [em, if_pos (fl_bad (by omega))] at h2
        exact qC_intro (T_m_asks_0 _ _ _ _ _ _ ⟨fun _ => t_F1 B (h2 _ (BD_le B (by omega))), fun z => absurd (BD_5 B) z⟩)
  · -- a square
    have e91 : hrV G = 91 := by omega
    have hl := hr_lt e91 (by omega)
    have nw : wdV G = -1 := by
      by_cases z : wdV G = -1
      · exact z
      · have := lt_wd S1 z
        omega
    rw [if_neg (by omega), if_neg (by omega), if_pos e91] at h1 h2
    have e0 : ha 282 2 = G 3 4 := (ra.2.2.2.2 Ra.1.1).1
    refine q_m_opens (d := e + 6) hv ho Ra ra (fun o5 hb' eh => ?_) (fun hb' o6 B => ?_)
    · have em : mayH o G = G := by unfold mayH; rw [if_pos o5]
      have ets : tsH 91 G = stpH G := by unfold tsH; rw [hk, if_pos e91]
      rw [em, if_neg (by omega), ets] at h1 h2
      have e2 : hb' 282 2 = G 3 4 := by
        rw [eh, mmS_slot, if_neg (by omega), mmS_cell (by omega), mmS_slot, if_neg (by omega)]
        exact e0
      rw [e2, mAdd_ok (by omega) (by omega)]
      have R2 := RW_open hv Ra ra hl eh
      have Sd := hi _ R2.1.2.1
      have Se := Sc_ts (c := 93) hv (by omega) Sd
      refine hit o5 _ _ (25 :: W) R2 ⟨by show (25 : Int) ≠ 1; omega, by show (25 : Int) ≠ 2; omega, by show (25 : Int) ≠ 3; omega, by show (25 : Int) ≠ 4; omega⟩ ⟨by show (25 : Int) ≠ 15; omega, by show (25 : Int) ≠ 16; omega, by show (25 : Int) ≠ 17; omega⟩ (fun hd P Rd hP hx => ?_) (fun hd B => h2 _ (BD_gone hv B sk_ts fr_ts Se)) _
      generalize ti (stpH G) = T at Rd hx h1 h2 Se Sd
      have hkT : skH (skH T) = skH T := skd_id (skd_sk Sd.2.1.2.1)
      have in25 : (25 : Int) ∈ P ++ (25 :: W) := List.mem_append.mpr (Or.inr (List.mem_cons_self ..))
      refine G_0 hv Rd (fun c93 _ he Re => ?_) (fun nc he re Re => ?_)
      · have et : tsH 93 T = stpH (skH T) := by unfold tsH; rw [if_pos c93]
        rw [et] at h1
        exact G_1 hv ho (fun h' R' => h1 h' R') P hP _ Re
      · have n93 : ¬ hrV (skH T) = 93 := fun z => nc ⟨z, in25⟩
        have et : tsH 93 T = flH 1 (skH T 3 4) (skH T) := by unfold tsH; rw [if_neg n93]
        rw [et] at h2
        exact G_3no hv hkT re Re hx (fun z => absurd in25 z) (fun _ h' B => h2 _ (BD_le B (by omega)))
    · have em : mayH o G = flH 4 (ha 282 2) G := by unfold mayH; rw [if_neg (by omega), e0]
      rw [em, if_pos (fl_bad (by omega))] at h2
      exact t_F1 (BD_at B) (h2 _ (BD_le (BD_at B) (by omega)))
end T7
