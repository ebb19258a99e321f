/-! ===== mm: products and sums of operands ===== -/
section LP
variable {e : Nat} {v n0 z0 s o b c k was : Int} {m g g' h h' : mmH} {Q : Int → mmH → Prop} {W P : List Int} {p : mmH → mmH}
theorem app_all {S : Int → Prop} {w : Int} (hP : ∀ q ∈ P, S q) (hw : S w) : ∀ q ∈ P ++ [w], S q := fun q hq => by
  rcases List.mem_append.mp hq with z | z
  · exact hP q z
  · rw [List.mem_singleton.mp z]; exact hw
theorem hr_put {t : Int} (hv : v = 5 ∨ v = 46) (hl : g (v + 33) 1 < 1600) : hrV (skH (putT v t g)) = hrV (skH g) := by
  have p3 := (put_in (t := t) hv hl).2.2
  have p2 : putT v t g 2 = g 2 := by unfold putT; rw [if_pos hl, mmS_row (by omega), mmS_row (by omega)]
  unfold skH
  rw [hrV_at, hrV_at, p3, p2]
set_option maxRecDepth 100000 in
theorem L_mul (hv : v = 5 ∨ v = 46) (hb0 : 0 ≤ b) (hp : SimP e v n0 z0 s b was m Q p o) (hi : ∀ g, Sc v g → Sc v (p g)) (hF : ∀ g, Fr (ScK v) g (p g)) (hm : ∀ g, Sc v g → g (v + 33) 1 ≤ g 3 4 → p g 3 0 = 0 → g 3 4 ≤ p g 3 4)
    (hW : tp W ≠ 3 ∧ tp W ≠ 4) (hb : b ≤ (W.length : Int)) : ∀ (n : Nat) (g h : mmH) (P : List Int), RW v n0 z0 s o b m g h W P → (∀ q ∈ P, q = 3 ∨ q = 4) → 1600 - (n : Int) ≤ g 3 4 →
    (∀ h' P', RW v n0 z0 s o b m (lopF v p 42 47 n g) h' W P' → (∀ q ∈ P', q = 3 ∨ q = 4) → (hrV (skH (lopF v p 42 47 n g)) ≠ 42 ∧ hrV (skH (lopF v p 42 47 n g)) ≠ 47) → sA e n0 z0 was Q h') →
    (∀ h', BD v n0 z0 (1601 - s) m (lopF v p 42 47 n g) h' → sF was Q h') → sA e n0 z0 was Q h
  | 0, g, h, P, hR, hP, hn, h1, h2 => by
    have bd := RW_bd hR
    have sk := skH_at hR.1.2.1
    have sc := (Sc_sk hv hR.1.2.1).2.1
    have e1 : hrV (skH g) = -1 := by
      unfold hrV
      rw [if_neg]
      have e3 : skH g 3 3 = g 3 3 := by unfold skH; rw [mmS_slot, if_neg (by omega)]
      omega
    exact h1 h P hR hP (by show hrV (skH g) ≠ 42 ∧ hrV (skH g) ≠ 47; omega)
  | n + 1, g, h, P, hR, hP, hn, h1, h2 => by
    have hk : skH (skH g) = skH g := skd_id (skd_sk hR.1.2.1.2.1.2.1)
    have bd := RW_bd hR
    have sg := (skH_at hR.1.2.1).1
    have pk := (pl_sk hv hR.1.2.1 (by rw [skH_30]; exact hR.1.1)).2.2.1
    have un : lopF v p 42 47 (n + 1) g = if hrV (skH g) = 42 ∨ hrV (skH g) = 47 then lopF v p 42 47 n (putT v (10000 + hrV (skH g)) (p (stpH (skH g)))) else skH g := by
      show (if g 3 0 ≠ 0 then g else _) = _
      rw [if_neg (by have := hR.1.1; omega)]
    rw [un] at h1 h2
    by_cases c : hrV (skH g) = 42 ∨ hrV (skH g) = 47
    · rw [if_pos c] at h1 h2
      refine A_mul hv hb0 hR hP hW c (fun h' R => s_E2 R ?_)
      have hl := hr_lt (t := skH g) rfl (by omega)
      have S1 := Sc_stp hv (Sc_sk hv hR.1.2.1) hl
      have es : stpH (skH g) 3 4 = skH g 3 4 + 1 := by unfold stpH; rw [mmS_slot, if_pos rfl]
      have es2 : stpH (skH g) (v + 33) 1 = skH g (v + 33) 1 := by unfold stpH; rw [mmS_cell (by omega)]
      have wo : codeOf (10000 + hrV (skH g)) = 3 ∨ codeOf (10000 + hrV (skH g)) = 4 := by
        rcases c with c | c
        · exact Or.inl (op_c.1 c)
        · exact Or.inr (op_c.2.1 c)
      refine hp _ _ _ R (by rw [List.length_cons]; omega) (fun h2' R2 => ?_) (fun h2' B => ?_)
      · have mo := hm _ S1 (by rw [es, es2]; omega) R2.1.1
        have b3 := RW_bd R2
        rw [List.length_cons] at b3
        have R3 := RW_owe (t := 10000 + hrV (skH g)) hv R2 rfl
        have pi := (put_in (t := 10000 + hrV (skH g)) hv (g := p (stpH (skH g))) (by omega)).2.2
        exact L_mul hv hb0 hp hi hF hm hW hb n _ _ _ R3 (app_all (S := fun q => q = 3 ∨ q = 4) (fun q hq => absurd hq (by exact List.not_mem_nil)) wo) (by rw [pi]; omega) h1 h2
      · exact h2 _ (BD_gone hv B ((sk_put hv).tr (sk_lop _ _)) (fr_put.tr (fr_lop hF _ _)) (Sc_lop hv (by omega) (by omega) hi _ _ (Sc_put hv B.1.2.1)))
    · rw [if_neg c] at h1 h2
      exact h1 h P (RW_sk hv hR) hP (by rw [hk]; omega)
set_option maxRecDepth 100000 in
theorem S_prd (hv : v = 5 ∨ v = 46) (hb0 : 0 ≤ b) (hp : SimP e v n0 z0 s b was m Q p o) (hi : ∀ g, Sc v g → Sc v (p g)) (hF : ∀ g, Fr (ScK v) g (p g)) (hm : ∀ g, Sc v g → g (v + 33) 1 ≤ g 3 4 → p g 3 0 = 0 → g 3 4 ≤ p g 3 4) : SimD e v n0 z0 s b was m Q (prdF v p) o := by
  intro g h W hR hb hW h1 h2
  refine hp g h W hR hb (fun h' R => ?_) (fun h' B => ?_)
  · have b3 := RW_bd R
    exact L_mul hv hb0 hp hi hF hm hW hb 1600 (p g) h' [] R (fun q hq => absurd hq (by exact List.not_mem_nil)) (by omega) h1 h2
  · exact h2 _ (BD_gone hv B (sk_lop _ _) (fr_lop hF _ _) (Sc_lop hv (by omega) (by omega) hi _ _ B.1.2.1))
set_option maxRecDepth 100000 in
theorem L_add (hv : v = 5 ∨ v = 46) (hb0 : 0 ≤ b) (hp : SimD e v n0 z0 s b was m Q p o) (hi : ∀ g, Sc v g → Sc v (p g)) (hF : ∀ g, Fr (ScK v) g (p g)) (hm : ∀ g, Sc v g → g (v + 33) 1 ≤ g 3 4 → p g 3 0 = 0 → g 3 4 ≤ p g 3 4)
    (hW : tp W ≠ 1 ∧ tp W ≠ 2 ∧ tp W ≠ 3 ∧ tp W ≠ 4) (hb : b ≤ (W.length : Int)) : ∀ (n : Nat) (g h : mmH) (P : List Int), RW v n0 z0 s o b m g h W P → (∀ q ∈ P, 1 ≤ q ∧ q ≤ 4) → (hrV (skH g) ≠ 42 ∧ hrV (skH g) ≠ 47) → 1600 - (n : Int) ≤ g 3 4 →
    (∀ h' P', RW v n0 z0 s o b m (lopF v p 43 45 n g) h' W P' → (∀ q ∈ P', 1 ≤ q ∧ q ≤ 4) → (hrV (skH (lopF v p 43 45 n g)) ≠ 42 ∧ hrV (skH (lopF v p 43 45 n g)) ≠ 47 ∧ hrV (skH (lopF v p 43 45 n g)) ≠ 43 ∧ hrV (skH (lopF v p 43 45 n g)) ≠ 45) → sA e n0 z0 was Q h') →
    (∀ h', BD v n0 z0 (1601 - s) m (lopF v p 43 45 n g) h' → sF was Q h') → sA e n0 z0 was Q h
  | 0, g, h, P, hR, hP, hx, hn, h1, h2 => by
    have bd := RW_bd hR
    have sk := skH_at hR.1.2.1
    have sc := (Sc_sk hv hR.1.2.1).2.1
    have e1 : hrV (skH g) = -1 := by
      unfold hrV
      rw [if_neg]
      have e3 : skH g 3 3 = g 3 3 := by unfold skH; rw [mmS_slot, if_neg (by omega)]
      omega
    exact h1 h P hR hP (by show hrV (skH g) ≠ 42 ∧ hrV (skH g) ≠ 47 ∧ hrV (skH g) ≠ 43 ∧ hrV (skH g) ≠ 45; omega)
  | n + 1, g, h, P, hR, hP, hx, hn, h1, h2 => by
    have hk : skH (skH g) = skH g := skd_id (skd_sk hR.1.2.1.2.1.2.1)
    have bd := RW_bd hR
    have sg := (skH_at hR.1.2.1).1
    have pk := (pl_sk hv hR.1.2.1 (by rw [skH_30]; exact hR.1.1)).2.2.1
    have un : lopF v p 43 45 (n + 1) g = if hrV (skH g) = 43 ∨ hrV (skH g) = 45 then lopF v p 43 45 n (putT v (10000 + hrV (skH g)) (p (stpH (skH g)))) else skH g := by
      show (if g 3 0 ≠ 0 then g else _) = _
      rw [if_neg (by have := hR.1.1; omega)]
    rw [un] at h1 h2
    by_cases c : hrV (skH g) = 43 ∨ hrV (skH g) = 45
    · rw [if_pos c] at h1 h2
      refine A_add hv hb0 hR hP hW c (fun h' R => s_E2 R ?_)
      have hl := hr_lt (t := skH g) rfl (by omega)
      have S1 := Sc_stp hv (Sc_sk hv hR.1.2.1) hl
      have es : stpH (skH g) 3 4 = skH g 3 4 + 1 := by unfold stpH; rw [mmS_slot, if_pos rfl]
      have es2 : stpH (skH g) (v + 33) 1 = skH g (v + 33) 1 := by unfold stpH; rw [mmS_cell (by omega)]
      have wo : codeOf (10000 + hrV (skH g)) = 1 ∨ codeOf (10000 + hrV (skH g)) = 2 := by
        rcases c with c | c
        · exact Or.inl (op_c.2.2.1 c)
        · exact Or.inr (op_c.2.2.2 c)
      refine hp _ _ _ R (by rw [List.length_cons]; omega) (by show codeOf _ ≠ 3 ∧ codeOf _ ≠ 4; omega) (fun h2' P2 R2 hP2 hx2 => ?_) (fun h2' B => ?_)
      · have mo := hm _ S1 (by rw [es, es2]; omega) R2.1.1
        have b3 := RW_bd R2
        rw [List.length_cons] at b3
        have R3 := RW_owe (t := 10000 + hrV (skH g)) hv R2 rfl
        have pi := (put_in (t := 10000 + hrV (skH g)) hv (g := p (stpH (skH g))) (by omega)).2.2
        refine L_add hv hb0 hp hi hF hm hW hb n _ _ _ R3 (app_all (S := fun q => 1 ≤ q ∧ q ≤ 4) (fun q hq => by have := hP2 q hq; omega) (by omega)) ?_ (by rw [pi]; omega) h1 h2
        have e7 : hrV (skH (putT v (10000 + hrV (skH g)) (p (stpH (skH g))))) = hrV (skH (p (stpH (skH g)))) := hr_put hv (by omega)
        rw [e7]
        exact hx2
      · exact h2 _ (BD_gone hv B ((sk_put hv).tr (sk_lop _ _)) (fr_put.tr (fr_lop hF _ _)) (Sc_lop hv (by omega) (by omega) hi _ _ (Sc_put hv B.1.2.1)))
    · rw [if_neg c] at h1 h2
      exact h1 h P (RW_sk hv hR) hP (by rw [hk]; omega)
set_option maxRecDepth 100000 in
theorem S_sum (hv : v = 5 ∨ v = 46) (hb0 : 0 ≤ b) (hp : SimD e v n0 z0 s b was m Q (prdF v p) o) (hi : ∀ g, Sc v g → Sc v (p g)) (hF : ∀ g, Fr (ScK v) g (p g)) (hm : ∀ g, Sc v g → g (v + 33) 1 ≤ g 3 4 → prdF v p g 3 0 = 0 → g 3 4 ≤ prdF v p g 3 4) : SimS e v n0 z0 s b was m Q (smF v p) o := by
  intro g h W hR hb hW h1 h2
  refine hp g h W hR hb ⟨hW.2.2.1, hW.2.2.2⟩ (fun h' P R hP hx => ?_) (fun h' B => ?_)
  · have b3 := RW_bd R
    exact L_add hv hb0 hp (fun _ q => Sc_prd hv hi q) (fun _ => fr_prd hF) hm hW hb 1600 (prdF v p g) h' P R (fun q hq => by have := hP q hq; omega) hx (by omega) h1 h2
  · exact h2 _ (BD_gone hv B (sk_lop _ _) (fr_lop (fun _ => fr_prd hF) _ _) (Sc_lop hv (by omega) (by omega) (fun _ q => Sc_prd hv hi q) _ _ B.1.2.1))
end LP
