/-! ===== mm: a whole test, in lockstep ===== -/
def ntp (W : List Int) : Prop := tp W ≠ 1 ∧ tp W ≠ 2 ∧ tp W ≠ 3 ∧ tp W ≠ 4
def SimF (e : Nat) (v n0 z0 s b : Int) (m : mmH) (Q : Int → mmH → Prop) (p : mmH → mmH) (o : Int) : Prop :=
  ∀ g h W, RW v n0 z0 s o b m g h W [] → ntp W → (∀ h', RW v n0 z0 s o b m (p g) h' W [] → tD e n0 z0 Q h') → (∀ h', BD v n0 z0 (1602 - s) m (p g) h' → Q 0 h') → tE e n0 z0 Q h
def SimB (e : Nat) (v n0 z0 s b : Int) (m : mmH) (Q : Int → mmH → Prop) (p : mmH → mmH) (o : Int) : Prop :=
  ∀ g h W, RW v n0 z0 s o b m g h W [] → ntp W → (tp W ≠ 15 ∧ tp W ≠ 17) → (∀ h' P, RW v n0 z0 s o b m (p g) h' W P → (∀ q ∈ P, q = 15) → wdV (skH (p g)) ≠ 24 → tG e n0 z0 Q h') → (∀ h', BD v n0 z0 (1602 - s) m (p g) h' → Q 0 h') → tE e n0 z0 Q h
def SimT (e : Nat) (v n0 z0 s b : Int) (m : mmH) (Q : Int → mmH → Prop) (p : mmH → mmH) (o : Int) : Prop :=
  ∀ g h W, RW v n0 z0 s o b m g h W [] → ntp W → (tp W ≠ 15 ∧ tp W ≠ 16 ∧ tp W ≠ 17) → (∀ h' P, RW v n0 z0 s o b m (p g) h' W P → (∀ q ∈ P, q = 15 ∨ q = 16) → (wdV (skH (p g)) ≠ 24 ∧ wdV (skH (p g)) ≠ 23) → tG e n0 z0 Q h') → (∀ h', BD v n0 z0 (1602 - s) m (p g) h' → Q 0 h') → tE e n0 z0 Q h
section WT
variable {d e : Nat} {v n0 z0 s o b b' c k was : Int} {m g g' h h' : mmH} {Q : Int → mmH → Prop} {W P : List Int} {p : mmH → mmH}
theorem wd_put {t : Int} (hv : v = 5 ∨ v = 46) (hl : g (v + 33) 1 < 1600) : wdV (skH (putT v t g)) = wdV (skH g) := by
  have p3 := (put_in (t := t) hv hl).2.2
  have p2 : putT v t g 2 = g 2 := by unfold putT; rw [if_pos hl, mmS_row (by omega), mmS_row (by omega)]
  have p45 : putT v t g 45 = g 45 := by unfold putT; rw [if_pos hl, mmS_row (by omega), mmS_row (by omega)]
  have e2 : skH (putT v t g) 2 = skH g 2 := by unfold skH; rw [mmS_row (by omega), mmS_row (by omega), p2]
  have e45 : skH (putT v t g) 45 = skH g 45 := by unfold skH; rw [mmS_row (by omega), mmS_row (by omega), p45]
  have e3 : skH (putT v t g) 3 = skH g 3 := by
    unfold skH
    funext i
    rw [mmS_slot, mmS_slot, p3, p2]
  unfold wdV leV pkV leV
  rw [e2, e3, e45]
theorem wd_end (h : g 3 3 ≤ g 3 4) : wdV g = -1 := wd_m1 (Or.inl (runT_stay (Or.inl h)))
set_option maxRecDepth 100000 in
theorem L_and (hv : v = 5 ∨ v = 46) (hp : SimF e v n0 z0 s b m Q p o) (hi : ∀ g, Sc v g → Sc v (p g)) (hF : ∀ g, Fr (ScK v) g (p g)) (hm : ∀ g, Sc v g → g (v + 33) 1 ≤ g 3 4 → p g 3 0 = 0 → g 3 4 ≤ p g 3 4)
    (hW : tp W ≠ 15 ∧ tp W ≠ 17) : ∀ (n : Nat) (g h : mmH) (P : List Int), RW v n0 z0 s o b m g h W P → (∀ q ∈ P, q = 15) → 1600 - (n : Int) ≤ g 3 4 →
    (∀ h' P', RW v n0 z0 s o b m (wlpF v p 24 10224 n g) h' W P' → (∀ q ∈ P', q = 15) → wdV (skH (wlpF v p 24 10224 n g)) ≠ 24 → tG e n0 z0 Q h') →
    (∀ h', BD v n0 z0 (1602 - s) m (wlpF v p 24 10224 n g) h' → Q 0 h') → tG e n0 z0 Q h
  | 0, g, h, P, hR, hP, hn, h1, h2 => by
    have sk := skH_at hR.1.2.1
    have sc := (Sc_sk hv hR.1.2.1).2.1
    have e3 : skH g 3 3 = g 3 3 := by unfold skH; rw [mmS_slot, if_neg (by omega)]
    have e1 : wdV (skH g) = -1 := wd_end (by omega)
    exact h1 h P hR hP (by show wdV (skH g) ≠ 24; omega)
  | n + 1, g, h, P, hR, hP, hn, h1, h2 => by
    have hk : skH (skH g) = skH g := skd_id (skd_sk hR.1.2.1.2.1.2.1)
    have bd := RW_bd hR
    have sg := (skH_at hR.1.2.1).1
    have S0 := Sc_sk hv hR.1.2.1
    have ok1 : skH g 3 0 = 0 := by rw [skH_30]; exact hR.1.1
    have pk := (pl_sk hv hR.1.2.1 ok1).2.2.1
    have un : wlpF v p 24 10224 (n + 1) g = if wdV (skH g) = 24 then wlpF v p 24 10224 n (putT v 10224 (p (psH (skH g)))) else skH g := by
      show (if g 3 0 ≠ 0 then g else _) = _
      rw [if_neg (by have := hR.1.1; omega)]
    rw [un] at h1 h2
    by_cases c : wdV (skH g) = 24
    · rw [if_pos c] at h1 h2
      have l1 := ps_len S0 c (by omega)
      have S1 := Sc_ps hv S0
      have ok2 : psH (skH g) 3 0 = 0 := by unfold psH; rw [mmS_slot, if_neg (by omega), mmS_slot, if_neg (by omega)]; exact ok1
      have p1 := (pl_ps hv S0 ok2).2.2.1
      refine G_and hv hR hP hW.1 c (fun h' R => ?_)
      refine hp _ _ _ R ⟨by show (15 : Int) ≠ 1; omega, by show (15 : Int) ≠ 2; omega, by show (15 : Int) ≠ 3; omega, by show (15 : Int) ≠ 4; omega⟩ (fun h2' R2 => D_no R2 (by show (15 : Int) ≠ 17; omega) ?_) (fun h2' B => ?_)
      · have mo := hm _ S1 (by omega) R2.1.1
        have b3 := RW_bd R2
        rw [List.length_cons] at b3
        have R3 := RW_owe (t := 10224) hv R2 rfl
        have pi := (put_in (t := 10224) hv (g := p (psH (skH g))) (by omega)).2.2
        exact L_and hv hp hi hF hm hW n _ _ _ R3 (app_all (S := fun q => q = 15) (fun q hq => absurd hq (by exact List.not_mem_nil)) rfl) (by rw [pi]; omega) h1 h2
      · exact h2 _ (BD_gone hv B ((sk_put hv).tr (sk_wlp _ _)) (fr_put.tr (fr_wlp hF _ _)) (Sc_wlp hv hi _ _ (Sc_put hv B.1.2.1)))
    · rw [if_neg c] at h1 h2
      exact h1 h P (RW_sk hv hR) hP (by rw [hk]; exact c)
set_option maxRecDepth 100000 in
theorem S_bt (hv : v = 5 ∨ v = 46) (hp : SimF e v n0 z0 s b m Q p o) (hi : ∀ g, Sc v g → Sc v (p g)) (hF : ∀ g, Fr (ScK v) g (p g)) (hm : ∀ g, Sc v g → g (v + 33) 1 ≤ g 3 4 → p g 3 0 = 0 → g 3 4 ≤ p g 3 4) : SimB e v n0 z0 s b m Q (btF v p) o := by
  intro g h W hR hn hW h1 h2
  refine hp g h W hR hn (fun h' R => D_no R hW.2 ?_) (fun h' B => ?_)
  · have b3 := RW_bd R
    exact L_and hv hp hi hF hm hW 1600 (p g) h' [] R (fun q hq => absurd hq (by exact List.not_mem_nil)) (by omega) h1 h2
  · exact h2 _ (BD_gone hv B (sk_wlp _ _) (fr_wlp hF _ _) (Sc_wlp hv hi _ _ B.1.2.1))
set_option maxRecDepth 100000 in
theorem L_or (hv : v = 5 ∨ v = 46) (hp : SimB e v n0 z0 s b m Q p o) (hi : ∀ g, Sc v g → Sc v (p g)) (hF : ∀ g, Fr (ScK v) g (p g)) (hm : ∀ g, Sc v g → g (v + 33) 1 ≤ g 3 4 → p g 3 0 = 0 → g 3 4 ≤ p g 3 4)
    (hW : tp W ≠ 15 ∧ tp W ≠ 16) : ∀ (n : Nat) (g h : mmH) (P : List Int), RW v n0 z0 s o b m g h W P → (∀ q ∈ P, q = 15 ∨ q = 16) → wdV (skH g) ≠ 24 → 1600 - (n : Int) ≤ g 3 4 →
    (∀ h' P', RW v n0 z0 s o b m (wlpF v p 23 10223 n g) h' W P' → (∀ q ∈ P', q = 15 ∨ q = 16) → (wdV (skH (wlpF v p 23 10223 n g)) ≠ 24 ∧ wdV (skH (wlpF v p 23 10223 n g)) ≠ 23) → tG e n0 z0 Q h') →
    (∀ h', BD v n0 z0 (1602 - s) m (wlpF v p 23 10223 n g) h' → Q 0 h') → tG e n0 z0 Q h
  | 0, g, h, P, hR, hP, hx, hn, h1, h2 => by
    have sk := skH_at hR.1.2.1
    have sc := (Sc_sk hv hR.1.2.1).2.1
    have e3 : skH g 3 3 = g 3 3 := by unfold skH; rw [mmS_slot, if_neg (by omega)]
    have e1 : wdV (skH g) = -1 := wd_end (by omega)
    exact h1 h P hR hP (by show wdV (skH g) ≠ 24 ∧ wdV (skH g) ≠ 23; omega)
  | n + 1, g, h, P, hR, hP, hx, hn, h1, h2 => by
    have hk : skH (skH g) = skH g := skd_id (skd_sk hR.1.2.1.2.1.2.1)
    have bd := RW_bd hR
    have sg := (skH_at hR.1.2.1).1
    have S0 := Sc_sk hv hR.1.2.1
    have ok1 : skH g 3 0 = 0 := by rw [skH_30]; exact hR.1.1
    have pk := (pl_sk hv hR.1.2.1 ok1).2.2.1
    have un : wlpF v p 23 10223 (n + 1) g = if wdV (skH g) = 23 then wlpF v p 23 10223 n (putT v 10223 (p (psH (skH g)))) else skH g := by
      show (if g 3 0 ≠ 0 then g else _) = _
      rw [if_neg (by have := hR.1.1; omega)]
    rw [un] at h1 h2
    by_cases c : wdV (skH g) = 23
    · rw [if_pos c] at h1 h2
      have l1 := ps_len S0 c (by omega)
      have S1 := Sc_ps hv S0
      have ok2 : psH (skH g) 3 0 = 0 := by unfold psH; rw [mmS_slot, if_neg (by omega), mmS_slot, if_neg (by omega)]; exact ok1
      have p1 := (pl_ps hv S0 ok2).2.2.1
      refine G_or hv hR hP hW c (fun h' R => ?_)
      refine hp _ _ _ R ⟨by show (16 : Int) ≠ 1; omega, by show (16 : Int) ≠ 2; omega, by show (16 : Int) ≠ 3; omega, by show (16 : Int) ≠ 4; omega⟩ ⟨by show (16 : Int) ≠ 15; omega, by show (16 : Int) ≠ 17; omega⟩ (fun h2' P2 R2 hP2 hx2 => ?_) (fun h2' B => ?_)
      · have mo := hm _ S1 (by omega) R2.1.1
        have b3 := RW_bd R2
        rw [List.length_cons] at b3
        have R3 := RW_owe (t := 10223) hv R2 rfl
        have pi := (put_in (t := 10223) hv (g := p (psH (skH g))) (by omega)).2.2
        exact L_or hv hp hi hF hm hW n _ _ _ R3 (app_all (S := fun q => q = 15 ∨ q = 16) (fun q hq => Or.inl (hP2 q hq)) (Or.inr rfl)) (by rw [wd_put hv (by omega)]; exact hx2) (by rw [pi]; omega) h1 h2
      · exact h2 _ (BD_gone hv B ((sk_put hv).tr (sk_wlp _ _)) (fr_put.tr (fr_wlp hF _ _)) (Sc_wlp hv hi _ _ (Sc_put hv B.1.2.1)))
    · rw [if_neg c] at h1 h2
      exact h1 h P (RW_sk hv hR) hP (by rw [hk]; exact ⟨hx, c⟩)
set_option maxRecDepth 100000 in
theorem S_te (hv : v = 5 ∨ v = 46) (hp : SimB e v n0 z0 s b m Q (btF v p) o) (hi : ∀ g, Sc v g → Sc v (p g)) (hF : ∀ g, Fr (ScK v) g (p g)) (hm : ∀ g, Sc v g → g (v + 33) 1 ≤ g 3 4 → btF v p g 3 0 = 0 → g 3 4 ≤ btF v p g 3 4) : SimT e v n0 z0 s b m Q (teF v p) o := by
  intro g h W hR hn hW h1 h2
  refine hp g h W hR hn ⟨hW.1, hW.2.2⟩ (fun h' P R hP hx => ?_) (fun h' B => ?_)
  · have b3 := RW_bd R
    exact L_or hv hp (fun _ q => Sc_bt hv hi q) (fun _ => fr_bt hF) hm ⟨hW.1, hW.2.1⟩ 1600 (btF v p g) h' P R (fun q hq => Or.inl (hP q hq)) hx (by omega) h1 h2
  · exact h2 _ (BD_gone hv B (sk_wlp _ _) (fr_wlp (fun _ => fr_bt hF) _ _) (Sc_wlp hv (fun _ q => Sc_bt hv hi q) _ _ B.1.2.1))
end WT
