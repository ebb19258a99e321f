/-! ===== mm: names looked up ===== -/
/-- what rests on names: counts of owners, lots, persons; lists -/
def cnt (v : Int) (g : mmH) (a : Int) : Int := if a = 0 then g v 0 else if a = 1 then g v 1 else g v 3
def nmz (v : Int) (g : mmH) (a : Int) : Int → Int := if a = 0 then g (v + 1) else if a = 1 then g (v + 2) else g (v + 3)
section ND
variable {d : Nat} {v : Int} {m g g' h h' : mmH} {Q : Int → mmH → Prop} {P : Prop}
theorem Nc_row {a : Int} (hN : Nc v g h) (ha : 0 ≤ a ∧ a ≤ 2) : h 313 a = cnt v g a ∧ (0 ≤ cnt v g a ∧ cnt v g a ≤ 10) ∧ ∀ k, 0 ≤ k → k < cnt v g a → nmR (nmz v g a k) (h 314 (10 * a + k)) := by
  obtain ⟨⟨a1, a2, a3⟩, ⟨b1, b2, b3⟩, ⟨c1, c2, c3⟩, n1, n2, n3⟩ := hN
  have : a = 0 ∨ a = 1 ∨ a = 2 := by omega
  rcases this with e | e | e <;> subst e
  · exact ⟨a1, ⟨a2, by show g v 0 ≤ 10; omega⟩, fun k k1 k2 => by rw [show (10 : Int) * 0 + k = k by omega]; exact n1 k k1 k2⟩
  · exact ⟨b1, ⟨b2, by show g v 1 ≤ 10; omega⟩, fun k k1 k2 => by rw [show (10 : Int) * 1 + k = 10 + k by omega]; exact n2 k k1 k2⟩
  · exact ⟨c1, ⟨c2, by show g v 3 ≤ 10; omega⟩, fun k k1 k2 => by rw [show (10 : Int) * 2 + k = 20 + k by omega]; exact n3 k k1 k2⟩
theorem q_m_nameOf {a c y : Int} {B : Int → Int} {x : Int} (ha : 0 ≤ a ∧ a ≤ 2) (h1 : h 313 a = c) (hc : 0 ≤ c ∧ c ≤ 10) (hn : ∀ k, 0 ≤ k → k < c → nmR (B k) (h 314 (10 * a + k))) (hx : nmR x y) (hy : Q (plcE B x c.toNat 0) h) : qC tFM (d + 1) k_m_nameOf [282, a, y] h Q := by
  refine qC_intro (T_m_nameOf_0 _ _ _ _ _ _ _ ?_)
  have key : ∀ (M : Nat) (k : Int), 0 ≤ k → k + M = c → Q (plcE B x M k) h → qB tFM d k_m_nameOf (h 0 0) (h 0 1) Q 1 [(3, 282), (1, a), (2, y), (0, 0), (1, k)] [] h := by
    intro M
    induction M with
    | zero =>
      intro k k1 k2 q
      refine T_m_nameOf_1 _ _ _ _ _ _ _ _ ?_
      rw [mmD_iff, h1]
      exact ⟨by omega, fun _ => q, fun z => absurd (show c ≤ k by omega) z⟩
    | succ M ih =>
      intro k k1 k2 q
      refine T_m_nameOf_1 _ _ _ _ _ _ _ _ ?_
      have q : Q (if B k = x then k else plcE B x M (k + 1)) h := q
      rw [mmD_iff, h1, mMul_ok (by omega) (by omega), mAdd_ok (by omega) (by omega), mmD_iff, mAdd_ok (by omega) (by omega), lc_ne0]
      have ni := nmR_iff (hn k k1 (by omega)) hx
      refine ⟨by omega, fun z => absurd z (by omega), fun _ => ⟨by omega, fun z => ?_, fun z => ?_⟩⟩
      · rw [if_neg (fun e => z (ni.mp e))] at q
        exact ih (k + 1) (by omega) (by omega) q
      · rw [if_pos (ni.mpr (Decidable.of_not_not z))] at q
        exact q
  exact key c.toNat 0 (by omega) (by omega) hy
theorem q_m_nameAny {a c y : Int} (ha : 0 ≤ a ∧ a ≤ 2) (h1 : h 313 a = c) (hc : 0 ≤ c ∧ c ≤ 10) (hy : ∀ x, Q x h) : qC tFM (d + 1) k_m_nameOf [282, a, y] h Q := by
  refine qC_intro (T_m_nameOf_0 _ _ _ _ _ _ _ ?_)
  have key : ∀ (M : Nat) (k : Int), 0 ≤ k → k + M = c → qB tFM d k_m_nameOf (h 0 0) (h 0 1) Q 1 [(3, 282), (1, a), (2, y), (0, 0), (1, k)] [] h := by
    intro M
    induction M with
    | zero =>
      intro k k1 k2
      refine T_m_nameOf_1 _ _ _ _ _ _ _ _ ?_
      rw [mmD_iff, h1]
      exact ⟨by omega, fun _ => hy _, fun z => absurd (show c ≤ k by omega) z⟩
    | succ M ih =>
      intro k k1 k2
      refine T_m_nameOf_1 _ _ _ _ _ _ _ _ ?_
      rw [mmD_iff, h1, mMul_ok (by omega) (by omega), mAdd_ok (by omega) (by omega), mmD_iff, mAdd_ok (by omega) (by omega), lc_ne0]
      exact ⟨by omega, fun z => absurd z (by omega), fun _ => ⟨by omega, fun z => ih (k + 1) (by omega) (by omega), fun z => hy _⟩⟩
  exact key c.toNat 0 (by omega) (by omega)
theorem Nc_nm (hv : v = 5 ∨ v = 46) (hN : Nc v g h) (hG : Fr MsK h h') : Nc v (nmH g) h' := Nc_fr hv fr_nm hG hN
theorem fr_newN : Fr (ScK v) g (newN v g) := fr_nm.tr fr_rf
theorem fr_ob : Fr (ScK v) g (obH v g) := fr_nm.tr fr_rf
theorem fr_lb : Fr (ScK v) g (lbH v g) := fr_nm.tr fr_rf
theorem sk_newN : Stk g (newN v g) := sk_nm.tr sk_rf
theorem sk_ob : Stk g (obH v g) := sk_nm.tr sk_rf
theorem sk_lb : Stk g (lbH v g) := sk_nm.tr sk_rf
set_option maxRecDepth 100000 in
theorem q_m_newName (hv : v = 5 ∨ v = 46) (hS : Sc v g) (hR : RS P g h) (hN : Nc v g h) (hF : Fr MsK m h) (hy : ∀ x h', (newN v g 3 0 = 0 → nmR (nmX g) x) → RS True (newN v g) h' → Nc v (newN v g) h' → Fr MsK m h' → Q x h') : qC tFM (d + 5) k_m_newName [282] h Q := by
  refine qC_intro (T_m_newName_0 _ _ _ _ _ (q_m_name hv hS hR (Fr.rf (h := h)) (fun x h1 nx R1 F1 => ?_)))
  have N1 : Nc v (nmH g) h1 := Nc_nm hv hN F1
  have S1 := Sc_nm hv hS
  have hF1 := hF.tr F1
  generalize hg : nmH g = G at nx R1 N1 S1
  have en : newN v g = rfH (knV v G (nmX g)) G := by rw [← hg]; rfl
  rw [en] at hy
  -- behind a fault the kinds go by
  have gone : ∀ (G' : mmH) (h2 : mmH), G' 3 0 ≠ 0 → RS True G' h2 → G' = rfH (knV v G (nmX g)) G → Nc v G' h2 → Fr MsK m h2 → ∀ (M : Nat) (k : Int), 0 ≤ k → k + M = 3 → qB tFM (d + 4) k_m_newName (h 0 0) (h 0 1) Q 1 [(3, 282), (2, x), (0, 0), (1, k)] [] h2 := fun G' h2 bad R2 eG N2 F2 => by
    have b5 : h2 282 5 ≠ 0 := by rw [R2.1]; exact bad
    intro M
    induction M with
    | zero => exact fun k k0 k1 => T_m_newName_1 _ _ _ _ _ _ _ ⟨fun _ => hy x h2 (fun z => absurd (by rw [eG]; exact z) bad) (by rw [← eG]; exact R2) (by rw [← eG]; exact N2) F2, fun z => absurd (show 3 ≤ k by omega) z⟩
    | succ M ih => exact fun k k0 k1 => T_m_newName_1 _ _ _ _ _ _ _ ⟨fun z => absurd z (by omega), fun _ => ⟨fun _ => by rw [mAdd_ok (by omega) (by omega)]; exact ih (k + 1) (by omega) (by omega), fun z => absurd b5 z⟩⟩
  by_cases bad : G 3 0 = 0
  · have nx := nx bad
    have h5 : h1 282 5 = 0 := by rw [R1.1]; exact bad
    have e38 : h1 282 38 = G 3 5 := (R1.2.2.2.2 bad).2.2 trivial
    have key : ∀ (M : Nat) (k : Int), 0 ≤ k → k + M = 3 → (∀ j, 0 ≤ j → j < k → plcE (nmz v G j) (nmX g) (cnt v G j).toNat 0 = -1) → qB tFM (d + 4) k_m_newName (h 0 0) (h 0 1) Q 1 [(3, 282), (2, x), (0, 0), (1, k)] [] h1 := by
      intro M
      induction M with
      | zero =>
        intro k k0 k1 all
        have kn : knV v G (nmX g) = false := by
          unfold knV
          rw [decide_eq_false_iff_not]
          have q0 : plcE (G (v + 1)) (nmX g) (G v 0).toNat 0 = -1 := all 0 (by omega) (by omega)
          have q1 : plcE (G (v + 2)) (nmX g) (G v 1).toNat 0 = -1 := all 1 (by omega) (by omega)
          have q2 : plcE (G (v + 3)) (nmX g) (G v 3).toNat 0 = -1 := all 2 (by omega) (by omega)
          omega
        have eG : rfH (knV v G (nmX g)) G = G := by rw [kn]; rfl
        rw [eG] at hy
        exact T_m_newName_1 _ _ _ _ _ _ _ ⟨fun _ => hy x h1 (fun _ => nx) R1 N1 hF1, fun z => absurd (show 3 ≤ k by omega) z⟩
      | succ M ih =>
        intro k k0 k1 all
        obtain ⟨r1, r2, r3⟩ := Nc_row (a := k) N1 (by omega)
        refine T_m_newName_1 _ _ _ _ _ _ _ ⟨fun z => absurd z (by omega), fun _ => ⟨fun z => absurd h5 z, fun _ => q_m_nameOf (by omega) r1 r2 r3 nx ⟨fun z => ?_, fun z => ?_⟩⟩⟩
        · rw [mAdd_ok (by omega) (by omega)]
          exact ih (k + 1) (by omega) (by omega) (fun j j1 j2 => by
            by_cases e : j = k
            · rw [e]; exact z
            · exact all j j1 (by omega))
        · have kn : knV v G (nmX g) = true := by
            unfold knV
            rw [decide_eq_true_iff]
            have : k = 0 ∨ k = 1 ∨ k = 2 := by omega
            rcases this with e | e | e <;> subst e
            · exact Or.inl z
            · exact Or.inr (Or.inl z)
            · exact Or.inr (Or.inr z)
          have eG : rfH (knV v G (nmX g)) G = flH 3 (G 3 5) G := by rw [kn]; rfl
          refine q_m_fail hv R1 (Fr.rf (h := h1)) (by omega) (fun _ => e38) (fun h2 R2 F2 => ?_)
          rw [mAdd_ok (by omega) (by omega)]
          exact gone _ h2 (fl_bad (by omega)) R2 eG.symm (Nc_fr hv fr_fl F2 N1) (hF1.tr F2) M (k + 1) (by omega) (by omega)
    exact key 3 0 (by omega) (by omega) (fun j j1 j2 => absurd j2 (by omega))
  · have eG : G = rfH (knV v G (nmX g)) G := by
      unfold rfH
      split
      · unfold flH; rw [if_pos bad]
      · rfl
    exact gone G h1 bad R1 eG N1 hF1 3 0 (by omega) (by omega)
/-- an owner's or a lot's name: its place -/
theorem q_m_oneOf {a : Int} (hv : v = 5 ∨ v = 46) (ha : a = 0 ∨ a = 1) (hS : Sc v g) (hR : RS P g h) (hN : Nc v g h) (hF : Fr MsK m h) (hy : ∀ x h', ((if a = 0 then obH v g else lbH v g) 3 0 = 0 → x = (if a = 0 then obX v g else lbX v g) ∧ 0 ≤ x ∧ x < cnt v g a) → ((if a = 0 then obH v g else lbH v g) 3 0 ≠ 0 → x = 0) → RS True (if a = 0 then obH v g else lbH v g) h' → Nc v (if a = 0 then obH v g else lbH v g) h' → Fr MsK m h' → Q x h') : qC tFM (d + 5) k_m_oneOf [282, a] h Q := by
  refine qC_intro (T_m_oneOf_0 _ _ _ _ _ _ (q_m_name hv hS hR (Fr.rf (h := h)) (fun x h1 nx R1 F1 => ?_)))
  have N1 : Nc v (nmH g) h1 := Nc_nm hv hN F1
  have S1 := Sc_nm hv hS
  have hF1 := hF.tr F1
  have ec : cnt v g a = cnt v (nmH g) a := by
    have f : ∀ k i, ¬ ScK v k i → nmH g k i = g k i := fr_nm
    unfold cnt
    rw [f v 0 (by unfold ScK; omega), f v 1 (by unfold ScK; omega), f v 3 (by unfold ScK; omega)]
  have ex : (if a = 0 then obX v g else lbX v g) = plcE (nmz v (nmH g) a) (nmX g) (cnt v (nmH g) a).toNat 0 := by
    rcases ha with e | e <;> subst e <;> rfl
  have eh : (if a = 0 then obH v g else lbH v g) = rfH (decide (plcE (nmz v (nmH g) a) (nmX g) (cnt v (nmH g) a).toNat 0 = -1)) (nmH g) := by
    rcases ha with e | e <;> subst e <;> rfl
  rw [ex, eh, ec] at hy
  clear ex eh ec
  generalize nmH g = G at nx R1 N1 S1 hy
  obtain ⟨r1, r2, r3⟩ := Nc_row (a := a) N1 (by omega)
  by_cases bad : G 3 0 = 0
  · have nx := nx bad
    have h5 : h1 282 5 = 0 := by rw [R1.1]; exact bad
    have e38 : h1 282 38 = G 3 5 := (R1.2.2.2.2 bad).2.2 trivial
    have pl := plcE_ok (nmz v G a) (nmX g) (cnt v G a).toNat 0
    refine q_m_nameOf (by omega) r1 r2 r3 nx ⟨fun z => absurd h5 z, fun _ => ⟨fun z => ⟨fun z2 => absurd h5 z2, fun _ => ?_⟩, fun z => ?_⟩⟩
    · rw [decide_eq_false z] at hy
      exact hy _ h1 (fun _ => ⟨rfl, by omega, by omega⟩) (fun q => absurd bad q) R1 N1 hF1
    · rw [decide_eq_true (show plcE (nmz v G a) (nmX g) (cnt v G a).toNat 0 = -1 from Decidable.of_not_not z)] at hy
      refine q_m_fail hv R1 (Fr.rf (h := h1)) (by omega) (fun _ => e38) (fun h2 R2 F2 => ?_)
      have b5 : h2 282 5 ≠ 0 := by rw [R2.1]; exact fl_bad (by omega)
      exact ⟨fun _ => hy 0 h2 (fun q => absurd q (fl_bad (by omega))) (fun _ => rfl) R2 (Nc_fr hv fr_fl F2 N1) (hF1.tr F2), fun q => absurd b5 q⟩
  · have b5 : h1 282 5 ≠ 0 := by rw [R1.1]; exact bad
    have eG : ∀ t : Bool, rfH t G = G := fun t => by
      unfold rfH
      split
      · unfold flH; rw [if_pos bad]
      · rfl
    rw [eG] at hy
    exact q_m_nameAny (by omega) r1 r2 (fun y => ⟨fun _ => ⟨fun _ => hy 0 h1 (fun q => absurd q bad) (fun _ => rfl) R1 N1 hF1, fun q => absurd b5 q⟩, fun q => absurd b5 q⟩)
end ND
