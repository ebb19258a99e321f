/-! ===== mm: laws told, from their word on ===== -/
section LZ
variable {d e : Nat} {P P' : Prop} {v n0 z0 k : Int} {m g g' h h' M G H : mmH} {Q : Int → mmH → Prop}
theorem Tz_50 (hT : Tz v g h) : h 282 50 = g (v + 33) 1 := by
  obtain ⟨-, -, -, -, -, -, l2, -⟩ := hT
  exact l2
set_option maxHeartbeats 4000000 in
theorem q_law {s : Bool} {a2 : Int} (hv : v = 5 ∨ v = 46) (ok : g 3 0 = 0) (hSg : Sc v g) (htk : g (v + 33) 1 ≤ g 3 4) (hw : wdV g = 17 ∨ wdV g = 18) (hs : (s = true ∧ a2 = 0) ∨ (s = false ∧ a2 = 1)) (hO : SO P v n0 z0 k m (psH g) h) (hy : ∀ h', SE v n0 z0 k m (lawF v s g) h' → Q 0 h') : qC tFM (e + 10) k_m_lawTold [282, g 3 4, a2] h Q := by
  have okp : psH g 3 0 = 0 := by unfold psH; rw [mmS_slot, if_neg (by omega), mmS_slot, if_neg (by omega)]; exact ok
  have e33 : psH g (v + 33) = g (v + 33) := r3_ps _ (by omega)
  have T0 := (hO.2.1 okp).1
  have c4 := T0.1.1.2.2.2.2
  have bb := T0.1.2.1.2.2.2.2
  rw [e33] at c4 bb
  have wl := wd_len hSg hw
  unfold lawF at hy
  refine qC_intro (T_m_lawTold_0 _ _ _ _ _ _ _ (o_isFull (d := e + 7) (n := g (v + 33) 0) (c := 8) hv ok hO (by omega) c4 (by omega) rfl (fun h1 okB O1 => ⟨fun _ => ?_, fun q => absurd rfl q⟩) (fun h1 bad O1 => ⟨fun q => absurd q (by omega), fun _ => hy h1 ?_⟩)))
  · have lt : g (v + 33) 0 < 8 := by
      unfold begH at okB
      by_cases q : g (v + 33) 0 < 8
      · exact q
      · rw [if_neg q] at okB
        exact absurd (stk_back sk_ps okB) (fl_bad (by omega))
    have eb : begH (g (v + 33) 0) 8 g = psH g := by unfold begH; rw [if_pos lt]
    have n1 : h1 313 4 = g (v + 33) 0 := by
      have := (O1.2.1 okB).1.1.1.2.2.2.2
      rw [eb, e33] at this
      exact this
    refine o_ownerF (d := e + 4) hv O1 (fun x2 h2 ex O2 F12 => ?_)
    have f12 : ∀ j i, ¬ MsK j i → h2 j i = h1 j i := F12
    have eB : obH v (begH (g (v + 33) 0) 8 g) = laB v g := rfl
    have eX : obX v (begH (g (v + 33) 0) 8 g) = obX v (laA v g) := rfl
    rw [eB] at ex O2
    rw [eX] at ex
    have b33 : laB v g (v + 33) = g (v + 33) := by
      rw [← eB, r3_ob _ (by omega), eb, e33]
    have hl : laB v g 3 0 = 0 → laB v g (v + 33) 1 + 3 ≤ laB v g 3 4 := fun okL => by
      have S1 : Sc v (psH g) := Sc_ps hv hSg
      have p := pl_ob hv S1 (show obH v (psH g) 3 0 = 0 by rw [← eb]; exact okL)
      rw [← eb] at p
      have p2 : begH (g (v + 33) 0) 8 g 3 4 ≤ laB v g 3 4 := p.2.1
      rw [eb] at p2
      rw [b33]
      omega
    -- whatever the kind
    have go : ∀ bar : Int, (s = true ∧ bar = 0) ∨ (s = false ∧ bar = 1) → qC tFM (e + 9) k_m_clears [282] (mmS (mmS (mmS h2 320 (g (v + 33) 0) x2) 321 (g (v + 33) 0) bar) 324 (g (v + 33) 0) (h2 282 50)) (fun x3 h3 => (a2 ≠ 0 → qB tFM (e + 9) k_m_lawTold (h 0 0) (h 0 1) Q 4 [(3, 282), (1, g 3 4), (1, a2), (1, g (v + 33) 0)] [] h3) ∧ (¬ (a2 ≠ 0) → qC tFM (e + 9) k_m_sumsTold [282] h3 (fun x4 h4 => qB tFM (e + 9) k_m_lawTold (h 0 0) (h 0 1) Q 4 [(3, 282), (1, g 3 4), (1, a2), (1, g (v + 33) 0)] [] h4))) := fun bar hbar => by
      refine qC_intro (T_m_clears_0 _ _ _ _ _ ?_)
      have X0 : ∀ j, j ≠ 282 → j ≠ 320 → j ≠ 321 → j ≠ 324 → mmS (mmS (mmS (mmS (mmS (mmS h2 320 (g (v + 33) 0) x2) 321 (g (v + 33) 0) bar) 324 (g (v + 33) 0) (h2 282 50)) 282 52 0) 282 53 0) 282 57 0 j = h2 j := fun j q1 q2 q3 q4 => by rw [mmS_row q1, mmS_row q1, mmS_row q1, mmS_row q4, mmS_row q3, mmS_row q2]
      have Xi : ∀ i, mmS (mmS (mmS (mmS (mmS (mmS h2 320 (g (v + 33) 0) x2) 321 (g (v + 33) 0) bar) 324 (g (v + 33) 0) (h2 282 50)) 282 52 0) 282 53 0) 282 57 0 282 i = if i = 57 then 0 else if i = 53 then 0 else if i = 52 then 0 else h2 282 i := fun i => by rw [mmS_slot, mmS_slot, mmS_slot, mmS_cell (by decide), mmS_cell (by decide), mmS_cell (by decide)]
      have Xa : ∀ i, mmS (mmS (mmS (mmS (mmS (mmS h2 320 (g (v + 33) 0) x2) 321 (g (v + 33) 0) bar) 324 (g (v + 33) 0) (h2 282 50)) 282 52 0) 282 53 0) 282 57 0 320 i = if i = g (v + 33) 0 then x2 else h2 320 i := fun i => by rw [mmS_cell (by decide), mmS_cell (by decide), mmS_cell (by decide), mmS_cell (by decide), mmS_cell (by decide), mmS_slot]
      have Xb : ∀ i, mmS (mmS (mmS (mmS (mmS (mmS h2 320 (g (v + 33) 0) x2) 321 (g (v + 33) 0) bar) 324 (g (v + 33) 0) (h2 282 50)) 282 52 0) 282 53 0) 282 57 0 321 i = if i = g (v + 33) 0 then bar else h2 321 i := fun i => by rw [mmS_cell (by decide), mmS_cell (by decide), mmS_cell (by decide), mmS_cell (by decide), mmS_slot, mmS_cell (by decide)]
      have Xc : ∀ i, mmS (mmS (mmS (mmS (mmS (mmS h2 320 (g (v + 33) 0) x2) 321 (g (v + 33) 0) bar) 324 (g (v + 33) 0) (h2 282 50)) 282 52 0) 282 53 0) 282 57 0 324 i = if i = g (v + 33) 0 then h2 282 50 else h2 324 i := fun i => by rw [mmS_cell (by decide), mmS_cell (by decide), mmS_cell (by decide), mmS_slot, mmS_cell (by decide), mmS_cell (by decide)]
      generalize mmS (mmS (mmS (mmS (mmS (mmS h2 320 (g (v + 33) 0) x2) 321 (g (v + 33) 0) bar) 324 (g (v + 33) 0) (h2 282 50)) 282 52 0) 282 53 0) 282 57 0 = X at X0 Xi Xa Xb Xc
      have J0 : J v n0 z0 X (laB v g) X := mkJ O2 hl (X0 0 (by decide) (by decide) (by decide) (by decide)) (X0 283 (by decide) (by decide) (by decide) (by decide)) (X0 322 (by decide) (by decide) (by decide) (by decide)) (fun i q1 q2 q3 => by rw [Xi, if_neg q3, if_neg q2, if_neg q1]) (by rw [Xi]; rfl) (by rw [Xi]; rfl) (by rw [Xi]; rfl)
      -- from the test's word on
      have fin : ∀ (G' H' : mmH), laC v s g = twH 19 G' → Fr (ScK v) (laB v g) G' → Stk (laB v g) G' → (G' 3 0 = 0 → Adv v (laB v g) G' ∨ G' = laB v g) → (G' 3 0 = 0 → (bar = 0 ∧ chkR (G' (v + 38)) (G' (v + 33) 1 - laB v g (v + 33) 1).toNat (laB v g (v + 33) 1) [] = some [false]) ∨ (bar = 1 ∧ laB v g (v + 33) 1 = G' (v + 33) 1)) → J v n0 z0 X G' H' → qB tFM (e + 9) k_m_lawTold (h 0 0) (h 0 1) Q 4 [(3, 282), (1, g 3 4), (1, a2), (1, g (v + 33) 0)] [] H' := fun G' H' eC f1 f2 f3 f4 JG => by
        have FX : ∀ j i, ¬ RwK j i → H' j i = X j i := (J_nm JG).2
        have nm := (J_nm JG).1
        have k0 := hO.2.2.2.1.1
        rw [k0.1, k0.2]
        have f5 : H' 313 4 = g (v + 33) 0 := by
          rw [FX 313 4 (nRw (by decide) (by decide) (by decide)), X0 313 (by decide) (by decide) (by decide) (by decide), f12 313 4 (by unfold MsK; omega)]
          exact n1
        refine law_4 (h := X) hv ⟨by omega, lt⟩ JG Fr.rf f5 (fun h6 h5 J7 e5 => hy _ ?_)
        have eD : laD v s g = teF v (fcL v 7 0) (twH 19 G') := by show teF v (fcL v 7 0) (laC v s g) = _; rw [eC]
        rw [eD, eC]
        have L := law_end (n := g (v + 33) 0) (t0 := laB v g (v + 33) 1) (bar := bar) (o := x2) (hb := h2) (gB := laB v g) (G := G') (C := twH 19 G') (D := teF v (fcL v 7 0) (twH 19 G')) (M := X) (H := H') hv sk_tw fr_tw (fun S => ⟨pl_tw hv S, Sc_tw hv S⟩) (sk_te (sk_fc 7 0)) (fr_te (fr_fc 7 0)) (fun S q => AdT_test0 hv S q) ⟨by omega, lt⟩ O2 (by rw [b33]) rfl f1 f2 f3 f4 JG (fun j i q1 q2 => ?_) ?_ ?_ (fun okG => ?_) J7 e5
        · by_cases okD : teF v (fcL v 7 0) (twH 19 G') 3 0 = 0
          · rw [okE_ok okD] at L ⊢
            have okL : laB v g 3 0 = 0 := stk_back f2 (stk_back sk_tw (stk_back (sk_te (sk_fc 7 0)) okD))
            rw [← (ex okL).1]
            exact L
          · rw [okE_bad okD] at L ⊢
            exact L
        · rw [FX j i q1]
          by_cases c0 : j = 282
          · subst c0
            rw [Xi, if_neg (fun z => q1 (by unfold RwK; omega)), if_neg (fun z => q1 (by unfold RwK; omega)), if_neg (fun z => q1 (by unfold RwK; omega))]
          · by_cases c1 : j = 320
            · subst c1; rw [Xa, if_neg (fun z => q2 ⟨by decide, z⟩)]
            · by_cases c2 : j = 321
              · subst c2; rw [Xb, if_neg (fun z => q2 ⟨by decide, z⟩)]
              · by_cases c3 : j = 324
                · subst c3; rw [Xc, if_neg (fun z => q2 ⟨by decide, z⟩)]
                · rw [X0 j c0 c1 c2 c3]
        · rw [FX 320 _ (nRw (by decide) (by decide) (by decide)), Xa, if_pos rfl]
        · rw [FX 321 _ (nRw (by decide) (by decide) (by decide)), Xb, if_pos rfl]
        · rw [FX 324 _ (nRw (by decide) (by decide) (by decide)), Xc, if_pos rfl]
          exact Tz_50 (O2.2.1 (stk_back f2 okG)).1
      rcases hs with ⟨s1, s2⟩ | ⟨s1, s2⟩
      · subst s1
        refine ⟨fun z => absurd s2 z, fun _ => qC_le (d := e + 6) (by omega) (J_sums hv J0 (fun h4 J4 => fin _ h4 rfl (fr_sm 7 0 _) (sk_sm 7 0 _) (fun okG => ?_) (fun okG => ?_) J4))⟩
        · have okL : laB v g 3 0 = 0 := stk_back (sk_sm 7 0 _) okG
          exact Or.inl (AdT_sum0 hv O2.1.1 (by have := hl okL; omega) okG).1
        · have okL : laB v g 3 0 = 0 := stk_back (sk_sm 7 0 _) okG
          have A := (AdT_sum0 hv O2.1.1 (by have := hl okL; omega) okG).2 [] (by simp)
          exact Or.inl ⟨by rcases hbar with z | z; exact z.2; exact absurd z.1 (by decide), A⟩
      · subst s1
        exact ⟨fun _ => fin _ _ rfl Fr.rf Stk.rf (fun _ => Or.inr rfl) (fun _ => Or.inr ⟨by rcases hbar with z | z; exact absurd z.1 (by decide); exact z.2, rfl⟩) J0, fun z => absurd s2 (by omega)⟩
    rw [n1, mmD_iff]
    refine ⟨by omega, fun q => ?_, fun q => ?_⟩
    · rw [mmD_iff, mmD_iff]
      exact ⟨by omega, by omega, go 0 (by rcases hs with z | z; exact Or.inl ⟨z.1, rfl⟩; omega)⟩
    · rw [mmD_iff, mmD_iff]
      exact ⟨by omega, by omega, go 1 (by rcases hs with z | z; omega; exact Or.inr ⟨z.1, rfl⟩)⟩
  · have f0 : Fr (ScK v) (begH (g (v + 33) 0) 8 g) (laC v s g) := by
      rcases hs with ⟨s1, _⟩ | ⟨s1, _⟩
      · subst s1; exact (fr_ob.tr (fr_sm 7 0 _)).tr fr_tw
      · subst s1; exact fr_ob.tr fr_tw
    have k0 : Stk (begH (g (v + 33) 0) 8 g) (laC v s g) := by
      rcases hs with ⟨s1, _⟩ | ⟨s1, _⟩
      · subst s1; exact (sk_ob.tr (sk_sm 7 0 _)).tr sk_tw
      · subst s1; exact sk_ob.tr sk_tw
    have S0 : Sc v (laC v s g) := by
      rcases hs with ⟨s1, _⟩ | ⟨s1, _⟩
      · subst s1; exact Sc_tw hv (Sc_sm hv 7 0 _ (Sc_ob hv O1.1.1))
      · subst s1; exact Sc_tw hv (Sc_ob hv O1.1.1)
    have f1 : Fr (ScK v) (begH (g (v + 33) 0) 8 g) (laD v s g) := f0.tr (fr_te (fr_fc 7 0))
    have k1 : Stk (begH (g (v + 33) 0) 8 g) (laD v s g) := k0.tr (sk_te (sk_fc 7 0))
    have S1 : Sc v (laD v s g) := Sc_te hv (Sc_fc hv 7 0) S0
    have badD : laD v s g 3 0 ≠ 0 := by rw [(k1 bad).1]; exact bad
    rw [okE_bad badD]
    exact ⟨_, ⟨S1, rfl, RS_gone hv O1.1.2 bad k1 f1⟩, S1, fun q => absurd q badD, Nc_sc hv f1 O1.2.2.1, O1.2.2.2⟩
end LZ
