/-! ===== mm: one operand, in lockstep ===== -/
section P2
variable {d e : Nat} {v n0 z0 s o b c k was : Int} {m g g' h h' : mmH} {Q : Int → mmH → Prop} {W P : List Int}
theorem BD_code {a : Int} (hc : c < 1600) (hB : BD v n0 z0 c m g h) (hy : ∀ h', BD v n0 z0 (c + 1) m g h' → Q 0 h') : qC tFM (d + 1) k_m_code [282, a] h Q := by
  obtain ⟨⟨a1, a2, a3⟩, ⟨a4, a5⟩, a6, a7⟩ := hB
  refine qC_intro (T_m_code_0 _ _ _ _ _ _ ?_)
  rw [mmD_iff, mAdd_ok (a := 0) (by omega) (by omega), mAdd_ok (b := 1) (by omega) (by omega), show 0 + h 282 50 = h 282 50 by omega]
  have z : ∀ k i, ¬ (k = 322 ∨ (k = 282 ∧ i = 50)) → mmS (mmS h 322 (h 282 50) a) 282 50 (h 282 50 + 1) k i = h k i := fun k i q => by
    by_cases e : k = 282
    · subst e; rw [mmS_slot, if_neg (by omega), mmS_cell (by omega)]
    · rw [mmS_cell e, mmS_cell (by omega)]
  refine ⟨by omega, hy _ ⟨⟨a1, a2, RS_out a3 (fun _ _ _ => rfl) (fun k i q => z k i (by omega))⟩, ⟨⟨by rw [z 0 0 (by omega)]; exact a4.1, by rw [z 0 1 (by omega)]; exact a4.2⟩, (a5.put (Or.inr (by omega))).put (Or.inr (by omega))⟩, ?_⟩⟩
  rw [mmS_slot, if_pos rfl]
  omega
theorem BD_at {a : Int} (hB : BD v n0 z0 c m g h) : BD v n0 z0 c m g (mmS h 282 2 a) := by
  obtain ⟨⟨a1, a2, ⟨r1, r2, r3, r4, r5⟩⟩, ⟨a4, a5⟩, a6, a7⟩ := hB
  refine ⟨⟨a1, a2, ?_, ?_, ?_, fun i i1 i2 => ?_, fun q => absurd q a1⟩, ⟨⟨?_, ?_⟩, a5.put (Or.inl ⟨rfl, Or.inl rfl⟩)⟩, ?_, ?_⟩
  · rw [mmS_slot, if_neg (by omega)]; exact r1
  · rw [mmS_slot, if_neg (by omega)]; exact r2
  · rw [mmS_slot, if_neg (by omega)]; exact r3
  · rw [mmS_cell (by omega)]; exact r4 i i1 i2
  · rw [mmS_cell (by omega)]; exact a4.1
  · rw [mmS_cell (by omega)]; exact a4.2
  · rw [mmS_slot, if_neg (by omega)]; exact a6
  · rw [mmS_slot, if_neg (by omega)]; exact a7
theorem RW_opn {w : Int} (hR : RW v n0 z0 s o b m g h W []) (hl : g (v + 33) 1 + W.length + 1 + s ≤ g 3 4) (h1 : h' = mmS (mmS (mmS h 282 53 (o + 1)) 323 (h 282 52) w) 282 52 (h 282 52 + 1)) : RW v n0 z0 s (o + 1) b m g h' (w :: W) [] := by
  subst h1
  have e5 : mmS h 282 53 (o + 1) 282 52 = h 282 52 := by rw [mmS_slot, if_neg (by omega)]
  rw [← e5]
  refine RW_push ?_ hl rfl
  obtain ⟨⟨a1, a2, a3⟩, ⟨a4, a5⟩, ⟨a6, a7⟩, ⟨a9, a10⟩, a11, ⟨a12, a13⟩, a14, a15⟩ := hR
  have z : ∀ k i, ¬ (k = 282 ∧ i = 53) → mmS h 282 53 (o + 1) k i = h k i := fun k i q => by
    by_cases e : k = 282
    · subst e; rw [mmS_slot, if_neg (by omega)]
    · rw [mmS_cell e]
  refine ⟨⟨a1, a2, RB_out a3 (fun k i q => z k i (by omega))⟩, ⟨⟨by rw [z 0 0 (by omega)]; exact a4.1, by rw [z 0 1 (by omega)]; exact a4.2⟩, a5.put (Or.inr (by omega))⟩, ⟨by rw [z 282 52 (by omega)]; exact a6, wst_congr _ (fun i _ _ => z 323 i (by omega)) a7⟩, ⟨by rw [mmS_slot, if_pos rfl], by rw [z 282 57 (by omega)]; exact a10⟩, a11, ⟨by rw [z 282 50 (by omega)]; exact a12, a13⟩, fun j j1 j2 => ?_, a15⟩
  rw [z 322 j (by omega)]
  exact a14 j j1 j2
theorem dg_wd (hd : isDg (hrV g) = true) (hl : g 3 4 < g 3 3) : wdV g = -1 := by
  refine wd_m1 (Or.inl (runT_stay (Or.inr ?_)))
  unfold hrV at hd
  rw [if_pos hl] at hd
  unfold isDg at hd
  rw [decide_eq_true_iff] at hd
  unfold isLt
  rw [decide_eq_false_iff_not]
  omega
theorem nodg {lo hi : Int} (hk : skH g = g) (hS : Sc v g) (hd : ¬ isDg (hrV g) = true) : nuH lo hi g = flH 1 (g 3 4) (nuT g) ∧ nuT g 3 0 = g 3 0 ∧ nuT g 3 1 = g 3 1 ∧ nuT g 3 3 = g 3 3 ∧ nuT g 2 = g 2 := by
  have e1 : nuE g = g 3 4 := by
    have key : ∀ M : Nat, (M = 0 ∨ g 3 4 < g 3 3) → runE isDg (g 2) M (g 3 4) = g 3 4 := fun M hM => by
      cases M with
      | zero => rfl
      | succ M =>
        have hl : g 3 4 < g 3 3 := by omega
        unfold hrV at hd
        rw [if_pos hl] at hd
        show (if isDg (g 2 (g 3 4)) = true then _ else g 3 4) = g 3 4
        rw [if_neg hd]
    have b := hS.2.1
    exact key _ (by split <;> omega)
  refine ⟨?_, ?_, ?_, ?_, ?_⟩
  · unfold nuH nuF
    rw [hk, if_pos (Or.inl e1)]
  · unfold nuT; rw [mmS_slot, if_neg (by omega), mmS_slot, if_neg (by omega)]
  · unfold nuT; rw [mmS_slot, if_neg (by omega), mmS_slot, if_neg (by omega)]
  · unfold nuT; rw [mmS_slot, if_neg (by omega), mmS_slot, if_neg (by omega)]
  · unfold nuT; rw [mmS_row (by omega), mmS_row (by omega)]
theorem fl_same {w p : Int} (h0 : g' 3 0 = g 3 0) (h1 : g' 3 1 = g 3 1) (h3 : g' 3 3 = g 3 3) (h2 : g' 2 = g 2) : flH w p g' 3 0 = flH w p g 3 0 ∧ flH w p g' 3 1 = flH w p g 3 1 ∧ flH w p g' 3 3 = flH w p g 3 3 ∧ flH w p g' 2 = flH w p g 2 := by
  unfold flH
  rw [h0]
  by_cases c : g 3 0 ≠ 0
  · rw [if_pos c, if_pos c]; exact ⟨h0, h1, h3, h2⟩
  · rw [if_neg c, if_neg c]
    refine ⟨?_, ?_, ?_, ?_⟩
    · rw [mmS_slot, if_neg (by omega), mmS_slot, if_pos rfl, mmS_slot, if_neg (by omega), mmS_slot, if_pos rfl]
    · rw [mmS_slot, if_pos rfl, mmS_slot, if_pos rfl]
    · rw [mmS_slot, if_neg (by omega), mmS_slot, if_neg (by omega), mmS_slot, if_neg (by omega), mmS_slot, if_neg (by omega)]; exact h3
    · rw [mmS_row (by omega), mmS_row (by omega), mmS_row (by omega), mmS_row (by omega)]; exact h2
/-- block 12: a fact's word or a number, blanks behind us -/
theorem E_12 {f : mmH} {w2 w3 w4 : mmV} {x : Int} (hv : v = 5 ∨ v = 46) (hk : skH g = g) (hR : RW v n0 z0 s o b m g h W []) (hf : f = (if isDg (hrV g) = true then putT v (nuV g) (nuH 0 9999 g) else if isFc (wdV g) = true then putT v (10200 + wdV g) (psH g) else flH 1 (g 3 4) g))
    (h1 : ∀ h', RW v n0 z0 s o b m f h' W [] → sA e n0 z0 was Q h') (h2 : ∀ h', BD v n0 z0 (1601 - s) m f h' → sF was Q h') : qB tFM (e + 4) k_m_onePart n0 z0 (sQ1 e n0 z0 was Q) 12 [(3, 282), (1, x), w2, w3, w4] [] h := by
  have bd := RW_bd hR
  have S0 := hR.1.2.1
  have one : ∀ (kk cc : Int) (h' : mmH), isFc kk = true → codeOf (10200 + kk) = cc → cc ≠ -1 → wdV (skH g) = kk → RW v n0 z0 s o b m (psH (skH g)) h' W [] → qB tFM (e + 4) k_m_onePart n0 z0 (sQ1 e n0 z0 was Q) 19 [(3, 282), (1, x), w2, w3, w4] [(1, cc)] h' := fun kk cc h' f1 f2 f3 f4 R => by
    rw [hk] at f4 R
    have nd : ¬ isDg (hrV g) = true := fun q => by
      have hl : g 3 4 < g 3 3 := hr_lt (t := g) rfl (fun z => by rw [z] at q; exact absurd q (by decide))
      rw [dg_wd q hl] at f4
      rw [← f4] at f1
      exact absurd f1 (by decide)
    rw [if_neg nd, f4, if_pos f1] at hf
    have l1 := ps_len S0 f4 (fun z => by rw [z] at f1; exact absurd f1 (by decide))
    have p1 := (pl_ps hv S0 R.1.1).2.2.1
    refine T_m_onePart_19 _ _ _ _ _ _ _ _ _ _ ⟨fun q => absurd q f3, fun _ => q_m_code hv R (by rw [p1]; omega) f2 (fun h2' R2 => s_A R2 (h1 h2' (by rw [hf]; exact R2)))⟩
  refine T_m_onePart_12 _ _ _ _ _ _ _ _ _ ⟨fun _ => ?_, fun q => absurd (RW_5 hR) q⟩
  refine w_takes (k := 11) hv (by omega) (by omega) hR (fun ha n11 Ra => ⟨fun _ => ?_, fun q => absurd rfl q⟩) (fun ha e11 Ra => ⟨fun q => absurd q (by omega), fun _ => one 11 7 ha rfl rfl (by omega) e11 Ra⟩)
  rw [hk] at Ra n11
  refine w_takes (k := 14) hv (by omega) (by omega) Ra (fun hb n14 Rb => ⟨fun _ => ?_, fun q => absurd rfl q⟩) (fun hb e14 Rb => ⟨fun q => absurd q (by omega), fun _ => one 14 8 hb rfl rfl (by omega) e14 Rb⟩)
  rw [hk] at Rb n14
  refine w_takes (k := 3) hv (by omega) (by omega) Rb (fun hc n3 Rc => ⟨fun _ => ?_, fun q => absurd rfl q⟩) (fun hc e3 Rc => ⟨fun q => absurd q (by omega), fun _ => one 3 9 hc rfl rfl (by omega) e3 Rc⟩)
  rw [hk] at Rc n3
  refine w_takes (k := 4) hv (by omega) (by omega) Rc (fun hd n4 Rd => ⟨fun _ => ?_, fun q => absurd rfl q⟩) (fun hd e4 Rd => ⟨fun q => absurd q (by omega), fun _ => one 4 10 hd rfl rfl (by omega) e4 Rd⟩)
  rw [hk] at Rd n4
  refine w_takes (k := 22) hv (by omega) (by omega) Rd (fun he n22 Re => ⟨fun _ => ?_, fun q => absurd rfl q⟩) (fun he e22 Re => ⟨fun q => absurd q (by omega), fun _ => one 22 11 he rfl rfl (by omega) e22 Re⟩)
  rw [hk] at Re n22
  have nf : ¬ isFc (wdV g) = true := by unfold isFc; rw [decide_eq_true_iff]; omega
  refine T_m_onePart_19 _ _ _ _ _ _ _ _ _ _ ⟨fun _ => w_number hv Re (fun hg ok Rg => ?_) (fun xn hg B => BD_code (by omega) B (fun hh B2 => s_F B2 (h2 hh ?_))), fun q => absurd rfl q⟩
  · have n := nu_ok (lo := 0) (hi := 9999) S0 ok
    rw [hk] at n
    have dg : isDg (hrV g) = true := by
      by_cases z : isDg (hrV g) = true
      · exact z
      · rw [(nodg hk S0 z).1] at ok
        exact absurd ok (fl_bad (by omega))
    rw [if_pos dg] at hf
    rw [hk, mAdd_ok (by omega) (by omega)]
    have e4 : nuH 0 9999 g 3 4 = nuE g := by rw [n.1]; unfold nuT; rw [mmS_slot, if_neg (by omega), mmS_slot, if_pos rfl]
    have e5 : nuH 0 9999 g (v + 33) 1 = g (v + 33) 1 := by rw [n.1]; unfold nuT; rw [mmS_cell (by omega), mmS_cell (by omega)]
    have ge := nuE_ge S0
    refine q_m_code (t := nuV g) hv Rg (by rw [e4, e5]; omega) ?_ (fun hh R2 => s_A R2 (h1 hh (by rw [hf]; exact R2)))
    unfold codeOf
    rw [if_pos (by omega)]
    omega
  · by_cases dg : isDg (hrV g) = true
    · rw [if_pos dg] at hf
      rw [hf]
      exact BD_gone hv (BD_le B2 (by omega)) (sk_put hv) fr_put (Sc_put hv B2.1.2.1)
    · rw [if_neg dg, if_neg nf] at hf
      rw [hf]
      have q := nodg (lo := 0) (hi := 9999) hk S0 dg
      have q2 := fl_same (w := 1) (p := g 3 4) q.2.1 q.2.2.1 q.2.2.2.1 q.2.2.2.2
      rw [q.1] at B2
      exact BD_same (BD_le B2 (by omega)) q2.1.symm q2.2.1.symm q2.2.2.1.symm q2.2.2.2.symm (Sc_fl hv S0)
/-- block 6: a pair, behind its word -/
theorem E_6 {inner : mmH → mmH} {w v3 v2 s0 t : Int} {w4 : mmV} (hv : v = 5 ∨ v = 46) (hb0 : 0 ≤ b) (ho : 0 ≤ o ∧ o ≤ 6) (hk : skH g = g) (hS : RS True g h) (hR : RW v n0 z0 s o b m g h W []) (hl : g (v + 33) 1 + W.length + 1 + s ≤ g 3 4) (hb : b ≤ (W.length : Int)) (hw : (w = 21 ∧ v3 ≠ 0) ∨ (w = 22 ∧ v3 = 0)) (ht : t = 10206 + w) (h0 : s0 = if hrV g = 40 then g 3 4 else -1)
    (hin : o < 6 → SimS e v n0 z0 s b was m Q inner (o + 1)) (hi : ∀ g, Sc v g → Sc v (inner g)) (hst : ∀ g, Stk g (inner g)) (hF : ∀ g, Fr (ScK v) g (inner g))
    (h1 : ∀ h', RW v n0 z0 s o b m (putT v t (pairF inner o g)) h' W [] → sA e n0 z0 was Q h') (h2 : ∀ h', BD v n0 z0 (1601 - s) m (putT v t (pairF inner o g)) h' → sF was Q h') : qB tFM (e + 4) k_m_onePart n0 z0 (sQ1 e n0 z0 was Q) 6 [(3, 282), (1, 1), (1, v2), (1, v3), w4] [(1, s0)] h := by
  have bd := RW_bd hR
  have S0 := hR.1.2.1
  have ok0 := hR.1.1
  have bad : ∀ (x : mmH), pairF inner o g = x → ∀ h', BD v n0 z0 (1600 - s) m x h' → sF was Q h' := fun x ex h' B => h2 h' (by
    rw [ex]
    exact BD_gone hv (BD_le B (by omega)) (sk_put hv) fr_put (Sc_put hv B.1.2.1))
  by_cases c40 : hrV g = 40
  · rw [if_pos c40] at h0
    have hl2 := hr_lt c40 (by omega)
    have e0 : h 282 2 = g 3 4 := (hS.2.2.2.2 ok0).1
    have ets : tsH 40 g = stpH g := by unfold tsH; rw [hk, if_pos c40]
    have ok2 : tsH 40 g 3 0 = 0 := by rw [ets]; unfold stpH; rw [mmS_slot, if_neg (by omega)]; exact ok0
    have six : ∀ h', o = 6 → BD v n0 z0 (1600 - s) m (flH 4 s0 g) h' → qC tFM (e + 4) k_m_asksSign [282, 40] h' (fun _ h3 => qB tFM (e + 4) k_m_onePart n0 z0 (sQ1 e n0 z0 was Q) 1 [(3, 282), (1, 1), (1, v2), (1, v3), (1, s0)] [] h3) := fun h' o6 B => by
      refine qC_intro (T_m_asksSign_0 _ _ _ _ _ _ ⟨fun _ => E_bad B (bad _ ?_ _ B), fun q => absurd (BD_5 B) q⟩)
      unfold pairF
      rw [hk, if_pos c40]
      have em : mayH o g = flH 4 s0 g := by unfold mayH; rw [if_neg (by omega), h0]
      rw [em, if_pos (fl_bad (by omega))]
    have five : ∀ h', o < 6 → h' = mmS (mmS (mmS h 282 53 (o + 1)) 323 (h 282 52) w) 282 52 (h 282 52 + 1) → qC tFM (e + 4) k_m_asksSign [282, 40] h' (fun _ h3 => qB tFM (e + 4) k_m_onePart n0 z0 (sQ1 e n0 z0 was Q) 1 [(3, 282), (1, 1), (1, v2), (1, v3), (1, s0)] [] h3) := fun h' o5 eh => by
      have R1 := RW_opn hR hl eh
      have em : mayH o g = g := by unfold mayH; rw [if_pos o5]
      have ep : pairF inner o g = tsH 41 (inner (tsH 44 (inner (tsH 40 g)))) := by
        unfold pairF
        rw [hk, if_pos c40, em, if_neg (by omega)]
      rw [ep] at h1 h2 bad
      refine w_asksSign (d := e + 1) hv (by omega) R1 (fun ha _ Ra => ?_) (fun ha B => absurd ok2 B.1.1)
      have Sa := Ra.1.2.1
      have Sb := hi _ Sa
      have Sc3 := Sc_ts (c := 44) hv (by omega) Sb
      have Sd := hi _ Sc3
      have Se := Sc_ts (c := 41) hv (by omega) Sd
      have wt : ∀ x : Int, x ≠ 1 → x ≠ 2 → x ≠ 3 → x ≠ 4 → tp (x :: W) ≠ 1 ∧ tp (x :: W) ≠ 2 ∧ tp (x :: W) ≠ 3 ∧ tp (x :: W) ≠ 4 := fun x x1 x2 x3 x4 => ⟨x1, x2, x3, x4⟩
      refine (hin o5) _ _ (w :: W) Ra (by rw [List.length_cons]; omega) (wt _ (by omega) (by omega) (by omega) (by omega)) (fun hb' P Rb hP hn => ?_) (fun hb' B => ?_) _ _ _
      · refine A_comma hv hb0 (by omega) hb Rb hP hn (fun hc okc Rc => ?_) (fun hc B => ?_)
        · refine (hin o5) _ _ ((w + 2) :: W) Rc (by rw [List.length_cons]; omega) (wt _ (by omega) (by omega) (by omega) (by omega)) (fun hd P2 Rd hP2 hn2 => ?_) (fun hd B => ?_)
          · refine A_shut hv hb0 (w := w + 2) (by omega) hb ⟨ho.1, o5⟩ Rd hP2 hn2 (fun hd2 Re => h1 _ ?_) (fun hd2 B => bad _ rfl _ B)
            rw [if_neg (by omega), show 10204 + (w + 2) = t by omega] at Re
            exact Re
          · exact h2 _ (BD_gone hv B (sk_ts.tr (sk_put hv)) (fr_ts.tr fr_put) (Sc_put hv Se))
        · exact bad _ rfl _ (BD_gone hv B ((hst _).tr sk_ts) ((hF _).tr fr_ts) Se)
      · exact h2 _ (BD_gone hv B ((sk_ts.tr ((hst _).tr sk_ts)).tr (sk_put hv)) ((fr_ts.tr ((hF _).tr fr_ts)).tr fr_put) (Sc_put hv Se))
    refine T_m_onePart_6 _ _ _ _ _ _ _ _ _ _ ⟨fun q => absurd q (by omega), fun _ => ⟨fun q3 => ?_, fun q3 => ?_⟩⟩
    · have w22 : w = 22 := by omega
      subst w22
      exact q_m_opens hv ho hR hS (fun o5 h' eh => five h' o5 eh) (fun h' o6 B => six h' o6 B)
    · have w21 : w = 21 := by omega
      subst w21
      exact q_m_opens hv ho hR hS (fun o5 h' eh => five h' o5 eh) (fun h' o6 B => six h' o6 B)
  · rw [if_neg c40] at h0
    have ep : pairF inner o g = flH 1 (g 3 4) g := by unfold pairF; rw [hk, if_neg c40]
    have et : tsH 40 g = flH 1 (g 3 4) g := by unfold tsH; rw [hk, if_neg c40]
    refine T_m_onePart_6 _ _ _ _ _ _ _ _ _ _ ⟨fun _ => w_asksSign hv (by omega) hR (fun ha ok _ => ?_) (fun ha B => ?_), fun q => absurd h0 q⟩
    · rw [et] at ok
      exact absurd ok (fl_bad (by omega))
    · rw [et] at B
      exact E_bad B (bad _ ep _ B)
end P2
