/-! ===== mm: sums and tests give one value each ===== -/
section T2
variable {v : Int} {g g' g'' : mmH}
theorem Adv.D (a : Adv v g g') (h : g (v + 33) 1 ≤ g 3 4) : g' (v + 33) 1 ≤ g' 3 4 := by
  obtain ⟨a1, a2, a3, a4, a5⟩ := a
  omega
theorem AdT_wrap {dp : Nat} {kd : Bool} {a b : mmH} (h1 : Plain v g a) (h2 : AdT v dp kd a b) (h3 : Plain v b g') : AdT v dp kd g g' := fun ok => by
  obtain ⟨b0, b1, b2, b3⟩ := h3 ok
  obtain ⟨A, T⟩ := h2 b0
  obtain ⟨a0, a1, a2, a3⟩ := h1 A.1
  refine ⟨((h1.adv A.1).tr A).tr (h3.adv ok), fun ks hk => ?_⟩
  rw [b2, ← a2, show g' (v + 38) = b (v + 38) from funext b3]
  exact T ks hk
/-- a word passed: at least a letter -/
theorem ps_len {w : Int} (hS : Sc v g) (hw : wdV g = w) (h0 : w ≠ -1) : g 3 4 + 1 ≤ psH g 3 4 := by
  have hl := leV_ge hS
  have : leV g ≠ g 3 4 := fun q => h0 (by rw [← hw]; exact wd_m1 (Or.inl q))
  unfold psH
  rw [mmS_slot, if_neg (by omega), mmS_slot, if_pos rfl]
  omega
theorem put_ok {t : Int} (hv : v = 5 ∨ v = 46) : putT v t g 3 0 = g 3 0 := by
  unfold putT
  split
  · rw [mmS_cell (by omega), mmS_cell (by omega)]
  · rfl
theorem pl_nuT (hv : v = 5 ∨ v = 46) (hS : Sc v g) : Plain v g (nuT g) := fun ok => by
  have h := nuE_ge hS
  unfold nuT at ok ⊢
  rw [mmS_slot, if_neg (by omega), mmS_slot, if_neg (by omega)] at ok
  refine ⟨ok, ?_, ?_, fun j => ?_⟩
  · rw [mmS_slot, if_neg (by omega), mmS_slot, if_pos rfl]; exact h.1
  · rw [mmS_cell (by omega), mmS_cell (by omega)]
  · rw [mmS_cell (by omega), mmS_cell (by omega)]
/-- one token put behind a plain step of at least a byte -/
theorem AdT_one {a : mmH} {t : Int} {dp : Nat} {kd : Bool} (hv : v = 5 ∨ v = 46) (hD : g (v + 33) 1 ≤ g 3 4) (hp : Plain v g a) (hb : g 3 4 + 1 ≤ a 3 4) (ha : a 3 4 ≤ 1600) (h2 : ∀ ks : List Bool, ks.length + dp ≤ 64 → chk1 t ([] ++ ks) = some (kd :: ks)) : AdT v dp kd g (putT v t a) := fun ok => by
  rw [put_ok hv] at ok
  obtain ⟨p0, p1, p2, p3⟩ := hp ok
  exact ⟨Adv_put hv (hp.adv ok) (by omega) (by omega), Typ_put hv (by omega) (by omega) (Typ_none p2) h2⟩
theorem stk_back {a b : mmH} (h : Stk a b) (ok : b 3 0 = 0) : a 3 0 = 0 := by
  by_cases c : a 3 0 = 0
  · exact c
  · exact absurd (by rw [← (h c).1]; exact ok) c
theorem ts_len {c : Int} (hS : Sc v g) (ok : tsH c g 3 0 = 0) : g 3 4 + 1 ≤ tsH c g 3 4 := by
  have s0 := (skH_at hS).1
  rw [(ts_ok ok).2]
  unfold stpH
  rw [mmS_slot, if_pos rfl]
  omega
theorem AdT_pair {inner : mmH → mmH} {o : Int} {di : Nat} (hv : v = 5 ∨ v = 46) (hi : ∀ g, Sc v g → Sc v (inner g)) (hk : ∀ g, Stk g (inner g)) (hin : ∀ g, Sc v g → g (v + 33) 1 ≤ g 3 4 → AdT v di false g (inner g)) (hS : Sc v g) (hD : g (v + 33) 1 ≤ g 3 4) (ok : pairF inner o g 3 0 = 0) :
    Adv v g (pairF inner o g) ∧ (pairF inner o g (v + 33) 1 - g (v + 33) 1 + 1 ≤ pairF inner o g 3 4 - g 3 4) ∧ ∀ ks : List Bool, ks.length + (di + 1) ≤ 64 → chkR (pairF inner o g (v + 38)) (pairF inner o g (v + 33) 1 - g (v + 33) 1).toNat (g (v + 33) 1) ks = some ([false, false] ++ ks) := by
  have h := Sc_sk hv hS
  have hm := Sc_may (o := o) hv h
  unfold pairF at ok ⊢
  by_cases c : hrV (skH g) = 40
  · rw [if_pos c] at ok ⊢
    by_cases c2 : mayH o (skH g) 3 0 ≠ 0
    · rw [if_pos c2] at ok; exact absurd ok c2
    · rw [if_neg c2] at ok ⊢
      have c2 := Decidable.of_not_not c2
      have S1 := Sc_ts (c := 40) hv (by omega) hm
      have S2 := hi _ S1
      have S3 := Sc_ts (c := 44) hv (by omega) S2
      have S4 := hi _ S3
      have ok4 := (pl_ts (c := 41) hv S4 ok).1
      have ok3 := stk_back (hk _) ok4
      have ok2 := (pl_ts (c := 44) hv S2 ok3).1
      have ok1 := stk_back (hk _) ok2
      have P1 : Plain v g (tsH 40 (mayH o (skH g))) := ((pl_sk hv hS).tr (may_ok c2)).tr (pl_ts hv hm)
      have l1 : g 3 4 + 1 ≤ tsH 40 (mayH o (skH g)) 3 4 := by
        have m0 := (may_ok (v := v) c2 c2).2.1
        have s0 := (skH_at hS).1
        have := ts_len hm ok1
        omega
      generalize tsH 40 (mayH o (skH g)) = a1 at ok S1 S2 S3 S4 P1 l1 ok1 ok2 ok3 ok4 ⊢
      have p1 := P1 ok1
      obtain ⟨A2, T2⟩ := hin a1 S1 (by omega) ok2
      have D2 := A2.D (by omega)
      have p3 := pl_ts (c := 44) hv S2 ok3
      obtain ⟨A4, T4⟩ := hin _ S3 (by omega) ok4
      have p5 := pl_ts (c := 41) hv S4 ok
      have A3 := (pl_ts (c := 44) hv S2).adv ok3
      have A5 := (pl_ts (c := 41) hv S4).adv ok
      refine ⟨((((P1.adv ok1).tr A2).tr A3).tr A4).tr A5, ?_, fun ks hks => ?_⟩
      · have := A2.2.2.2.1
        have := A4.2.2.2.1
        omega
      · rw [p5.2.2.1, show tsH 41 (inner (tsH 44 (inner a1))) (v + 38) = inner (tsH 44 (inner a1)) (v + 38) from funext p5.2.2.2]
        refine Typ_seq (dp := di + 1) (dq := di) (st := [false]) (st2 := [false]) hv ?_ A4 (fun ks hk2 => ?_) (fun ks hk2 => T4 ks hk2) (by simp) ks hks
        · have := A2.2.2.1; omega
        · rw [p3.2.2.1, ← p1.2.2.1, show tsH 44 (inner a1) (v + 38) = inner a1 (v + 38) from funext p3.2.2.2]
          exact T2 ks (by omega)
  · rw [if_neg c] at ok
    exact absurd ok (fl_bad (by decide))
theorem AdT_part {inner : mmH → mmH} {o : Int} {di : Nat} (hv : v = 5 ∨ v = 46) (hi : ∀ g, Sc v g → Sc v (inner g)) (hk : ∀ g, Stk g (inner g)) (hin : ∀ g, Sc v g → g (v + 33) 1 ≤ g 3 4 → AdT v di false g (inner g)) (hS : Sc v g) (hD : g (v + 33) 1 ≤ g 3 4) : AdT v (di + 1) false g (partF v inner o g) := by
  have h := Sc_sk hv hS
  have hm := Sc_may (o := o) hv h
  have P0 := pl_sk hv hS
  have l0 := (skH_at hS).1
  unfold partF
  by_cases c : g 3 0 ≠ 0
  · rw [if_pos c]; exact fun ok => absurd ok c
  · rw [if_neg c]
    by_cases c1 : isDg (hrV (skH g)) = true
    · rw [if_pos c1]
      intro ok
      have ok1 := ok
      rw [put_ok hv] at ok1
      have n := nu_ok h ok1
      have S2 := Sc_sk hv h
      have ge := nuE_ge S2
      have e := (skH_at h).1
      have tb := (Sc_nuT hv S2).2.1
      have n4 : nuT (skH (skH g)) 3 4 = nuE (skH (skH g)) := by unfold nuT; rw [mmS_slot, if_neg (by omega), mmS_slot, if_pos rfl]
      rw [n.1] at ok ⊢
      refine AdT_one hv hD ((P0.tr (pl_sk hv h)).tr (pl_nuT hv S2)) (by omega) (by omega) (fun ks hks => ?_) ok
      exact tks.1 _ n.2.2.1 (by omega) (by show ([] ++ ks).length < 64; rw [List.nil_append]; omega)
    · rw [if_neg c1]
      by_cases c2 : hrV (skH g) = 40
      · rw [if_pos c2]
        by_cases c3 : mayH o (skH g) 3 0 ≠ 0
        · rw [if_pos c3]; exact fun ok => absurd ok c3
        · rw [if_neg c3]
          have c3 := Decidable.of_not_not c3
          have S1 := Sc_ts (c := 40) hv (by omega) hm
          have P1 : Plain v g (tsH 40 (mayH o (skH g))) := (P0.tr (may_ok c3)).tr (pl_ts hv hm)
          intro ok
          have P2 := pl_ts (c := 41) hv (hi _ S1)
          have ok2 := (P2 ok).1
          have ok1 := stk_back (hk _) ok2
          have p1 := P1 ok1
          obtain ⟨a, b⟩ := AdT_wrap (dp := di) (kd := false) P1 (hin _ S1 (by omega)) P2 ok
          exact ⟨a, fun ks hks => b ks (by omega)⟩
      · rw [if_neg c2]
        by_cases c4 : wdV (skH g) = 27 ∨ wdV (skH g) = 28
        · rw [if_pos c4]
          intro ok
          have ok1 := ok
          rw [put_ok hv] at ok1
          have S1 := Sc_ps hv h
          have P1 : Plain v g (psH (skH g)) := P0.tr (pl_ps hv h)
          have pk : ∀ g, Stk g (pairF inner o g) := fun _ => sk_pair hk
          have ok0 := stk_back (pk _) ok1
          have p1 := P1 ok0
          obtain ⟨A, B, C⟩ := AdT_pair (o := o) (di := di) hv hi hk hin S1 (by omega) ok1
          have A' := (P1.adv ok0).tr A
          have SS := Sc_pair (o := o) hv hi S1
          have ba := SS.2.1
          refine ⟨Adv_put hv A' (by omega) (by omega), Typ_put (st := [false, false]) hv A'.2.2.1 (by omega) (fun ks hks => ?_) (fun ks hks => tks.2.2.2.2.2.2 _ (by omega))⟩
          rw [← p1.2.2.1]
          exact C ks hks
        · rw [if_neg c4]
          by_cases c5 : isFc (wdV (skH g)) = true
          · rw [if_pos c5]
            unfold isFc at c5
            rw [decide_eq_true_iff] at c5
            have S1 := Sc_ps hv h
            have b := S1.2.1
            refine AdT_one hv hD (P0.tr (pl_ps hv h)) (by have := ps_len h rfl (show wdV (skH g) ≠ -1 by omega); omega) (by omega) (fun ks hks => ?_)
            exact tks.2.1 _ (by omega) (by show ([] ++ ks).length < 64; rw [List.nil_append]; omega)
          · rw [if_neg c5]
            exact fun ok => absurd ok (fl_bad (by decide))
theorem AdT_lop {p : mmH → mmH} {c1 c2 : Int} {dq : Nat} {g0 : mmH} (hv : v = 5 ∨ v = 46) (hc : (c1 = 42 ∧ c2 = 47) ∨ (c1 = 43 ∧ c2 = 45)) (hi : ∀ g, Sc v g → Sc v (p g)) (hk : ∀ g, Stk g (p g)) (hp : ∀ g, Sc v g → g (v + 33) 1 ≤ g 3 4 → AdT v dq false g (p g)) : ∀ (m : Nat) (g : mmH), Sc v g → (g 3 0 = 0 → g (v + 33) 1 ≤ g 3 4 ∧ Adv v g0 g ∧ Typ v (dq + 1) false g0 g) → AdT v (dq + 1) false g0 (lopF v p c1 c2 m g)
  | 0, g, _, h => fun ok => (h ok).2
  | m + 1, g, hS, h => by
    have sS := Sc_sk hv hS
    have P0 := pl_sk hv hS
    unfold lopF
    by_cases c : g 3 0 ≠ 0
    · rw [if_pos c]; exact fun ok => absurd ok c
    · rw [if_neg c]
      have c := Decidable.of_not_not c
      obtain ⟨hD, hA, hT⟩ := h c
      by_cases q : hrV (skH g) = c1 ∨ hrV (skH g) = c2
      · rw [if_pos q]
        have hl : skH g 3 4 < skH g 3 3 := by
          rcases q with z | z
          · exact (hrV_lt z (by omega)).1
          · exact (hrV_lt z (by omega)).1
        have S1 := Sc_stp hv sS hl
        have S2 := hi _ S1
        have P1 : Plain v g (stpH (skH g)) := P0.tr (pl_stp hv)
        refine AdT_lop hv hc hi hk hp m _ (Sc_put hv S2) (fun ok => ?_)
        rw [put_ok hv] at ok
        have ok1 := stk_back (hk _) ok
        have p1 := P1 ok1
        have l1 : g 3 4 + 1 ≤ stpH (skH g) 3 4 := by
          have := (skH_at hS).1
          unfold stpH
          rw [mmS_slot, if_pos rfl]; omega
        obtain ⟨A, T⟩ := hp _ S1 (by omega) ok
        have A1 := P1.adv ok1
        have b2 := S2.2.1
        have a4 := A.2.2.2.1
        have a3 := A.2.2.1
        have hl2 : p (stpH (skH g)) (v + 33) 1 < 1600 := by omega
        have AA := (hA.tr A1).tr A
        have B4 := hA.2.2.2.1
        have pin := put_in (t := 10000 + hrV (skH g)) hv hl2
        refine ⟨?_, Adv_put hv AA hl2 (by omega), Typ_put (dp := dq + 1) (st := [false, false]) hv AA.2.2.1 hl2 ?_ (fun ks hks => tks.2.2.2.2.2.2 _ (by omega))⟩
        · rw [pin.1, pin.2.2]; omega
        · refine Typ_seq (g := stpH (skH g)) (dp := dq + 1) (dq := dq) (st := [false]) (st2 := [false]) hv (by have := hA.2.2.1; omega) A (fun ks hks => ?_) (fun ks hks => T ks hks) (by simp)
          rw [p1.2.2.1, show stpH (skH g) (v + 38) = g (v + 38) from funext p1.2.2.2]
          exact hT ks hks
      · rw [if_neg q]
        intro ok
        have p0 := P0 ok
        refine ⟨hA.tr (P0.adv ok), fun ks hks => ?_⟩
        rw [p0.2.2.1, show skH g (v + 38) = g (v + 38) from funext p0.2.2.2]
        exact hT ks hks
theorem AdT_prd {p : mmH → mmH} {dq : Nat} (hv : v = 5 ∨ v = 46) (hi : ∀ g, Sc v g → Sc v (p g)) (hk : ∀ g, Stk g (p g)) (hp : ∀ g, Sc v g → g (v + 33) 1 ≤ g 3 4 → AdT v dq false g (p g)) (hS : Sc v g) (hD : g (v + 33) 1 ≤ g 3 4) : AdT v (dq + 1) false g (prdF v p g) :=
  AdT_lop hv (Or.inl ⟨rfl, rfl⟩) hi hk hp 1600 _ (hi _ hS) (fun ok => ⟨(hp _ hS hD ok).1.D hD, (hp _ hS hD ok).1, fun ks hks => (hp _ hS hD ok).2 ks (by omega)⟩)
theorem AdT_smF {p : mmH → mmH} {dq : Nat} (hv : v = 5 ∨ v = 46) (hi : ∀ g, Sc v g → Sc v (p g)) (hk : ∀ g, Stk g (p g)) (hp : ∀ g, Sc v g → g (v + 33) 1 ≤ g 3 4 → AdT v dq false g (p g)) (hS : Sc v g) (hD : g (v + 33) 1 ≤ g 3 4) : AdT v (dq + 2) false g (smF v p g) :=
  AdT_lop hv (Or.inr ⟨rfl, rfl⟩) (fun _ q => Sc_prd hv hi q) (fun _ => sk_prd hk) (fun _ q1 q2 => AdT_prd hv hi hk hp q1 q2) 1600 _ (Sc_prd hv hi hS) (fun ok => ⟨(AdT_prd hv hi hk hp hS hD ok).1.D hD, (AdT_prd hv hi hk hp hS hD ok).1, fun ks hks => (AdT_prd hv hi hk hp hS hD ok).2 ks (by omega)⟩)
theorem AdT_sm (hv : v = 5 ∨ v = 46) : ∀ (n : Nat) (o : Int) (g : mmH), 0 < n → 7 ≤ n + o → o ≤ 6 → Sc v g → g (v + 33) 1 ≤ g 3 4 → AdT v (3 * n) false g (smL v n o g)
  | 0, _, _, h, _, _, _, _ => absurd h (by decide)
  | n + 1, o, g, _, h7, h6, hS, hD => by
    refine AdT_smF (dq := 3 * n + 1) hv (fun _ q => Sc_part hv (Sc_sm hv n (o + 1)) q) (fun _ => sk_part) (fun a q1 q2 => ?_) hS hD
    by_cases z : o < 6
    · exact AdT_part hv (Sc_sm hv n (o + 1)) (sk_sm n (o + 1)) (fun b q3 q4 => AdT_sm hv n (o + 1) b (by omega) (by omega) (by omega) q3 q4) q1 q2
    · -- nothing may open
      have e : partF v (smL v n (o + 1)) o a = partF v (fun g => flH 1 0 g) o a := by
        have hmz : ∀ s, mayH o s 3 0 ≠ 0 := fun s q => z (mayH_ok q).1
        unfold partF pairF
        rw [if_pos (hmz _), if_pos (hmz _), if_pos (hmz _), if_pos (hmz _)]
      rw [e]
      exact AdT_part (di := 3 * n) hv (fun _ q => Sc_fl hv q) (fun _ => sk_fl) (fun b _ _ ok => absurd ok (fl_bad (by decide))) q1 q2
theorem AdT_cmp {sm : mmH → mmH} {dq : Nat} (hv : v = 5 ∨ v = 46) (hi : ∀ g, Sc v g → Sc v (sm g)) (hk : ∀ g, Stk g (sm g)) (hp : ∀ g, Sc v g → g (v + 33) 1 ≤ g 3 4 → AdT v dq false g (sm g)) (hS : Sc v g) (hD : g (v + 33) 1 ≤ g 3 4) : AdT v (dq + 1) true g (cmpF v sm g) := by
  have S0 := hi _ hS
  have sS := Sc_sk hv S0
  have P0 := pl_sk hv S0
  unfold cmpF
  by_cases q : hrV (skH (sm g)) = 60 ∨ hrV (skH (sm g)) = 62 ∨ hrV (skH (sm g)) = 61
  · rw [if_pos q]
    have hl : skH (sm g) 3 4 < skH (sm g) 3 3 := by
      rcases q with z | z | z
      · exact (hrV_lt z (by omega)).1
      · exact (hrV_lt z (by omega)).1
      · exact (hrV_lt z (by omega)).1
    have S1 := Sc_stp hv sS hl
    have S2 := hi _ S1
    have P1 : Plain v (sm g) (stpH (skH (sm g))) := P0.tr (pl_stp hv)
    intro ok
    rw [put_ok hv] at ok
    have ok1 := stk_back (hk _) ok
    have p1 := P1 ok1
    obtain ⟨A0, T0⟩ := hp _ hS hD p1.1
    have D0 := A0.D hD
    have l1 : sm g 3 4 + 1 ≤ stpH (skH (sm g)) 3 4 := by
      have := (skH_at S0).1
      unfold stpH
      rw [mmS_slot, if_pos rfl]; omega
    obtain ⟨A, T⟩ := hp _ S1 (by omega) ok
    have b2 := S2.2.1
    have a4 := A.2.2.2.1
    have a3 := A.2.2.1
    have AA := (A0.tr (P1.adv ok1)).tr A
    have B4 := A0.2.2.2.1
    refine ⟨Adv_put hv AA (by omega) (by omega), Typ_put (dp := dq + 1) (st := [false, false]) hv AA.2.2.1 (by omega) ?_ (fun ks hks => tks.2.2.2.2.2.1 _ (by omega))⟩
    refine Typ_seq (g := stpH (skH (sm g))) (dp := dq + 1) (dq := dq) (st := [false]) (st2 := [false]) hv (by have := A0.2.2.1; omega) A (fun ks hks => ?_) (fun ks hks => T ks hks) (by simp)
    rw [p1.2.2.1, show stpH (skH (sm g)) (v + 38) = sm g (v + 38) from funext p1.2.2.2]
    exact T0 ks (by omega)
  · rw [if_neg q]
    exact fun ok => absurd ok (fl_bad (by decide))
theorem AdT_wlp {p : mmH → mmH} {w t : Int} {dq : Nat} {g0 : mmH} (hv : v = 5 ∨ v = 46) (hw : w ≠ -1) (ht : t = 10223 ∨ t = 10224) (hi : ∀ g, Sc v g → Sc v (p g)) (hk : ∀ g, Stk g (p g)) (hp : ∀ g, Sc v g → g (v + 33) 1 ≤ g 3 4 → AdT v dq true g (p g)) : ∀ (m : Nat) (g : mmH), Sc v g → (g 3 0 = 0 → g (v + 33) 1 ≤ g 3 4 ∧ Adv v g0 g ∧ Typ v (dq + 1) true g0 g) → AdT v (dq + 1) true g0 (wlpF v p w t m g)
  | 0, g, _, h => fun ok => (h ok).2
  | m + 1, g, hS, h => by
    have sS := Sc_sk hv hS
    have P0 := pl_sk hv hS
    unfold wlpF
    by_cases c : g 3 0 ≠ 0
    · rw [if_pos c]; exact fun ok => absurd ok c
    · rw [if_neg c]
      have c := Decidable.of_not_not c
      obtain ⟨hD, hA, hT⟩ := h c
      by_cases q : wdV (skH g) = w
      · rw [if_pos q]
        have S1 := Sc_ps hv sS
        have S2 := hi _ S1
        have P1 : Plain v g (psH (skH g)) := P0.tr (pl_ps hv sS)
        refine AdT_wlp hv hw ht hi hk hp m _ (Sc_put hv S2) (fun ok => ?_)
        rw [put_ok hv] at ok
        have ok1 := stk_back (hk _) ok
        have p1 := P1 ok1
        have l1 : g 3 4 + 1 ≤ psH (skH g) 3 4 := by
          have := (skH_at hS).1
          have := ps_len sS q hw
          omega
        obtain ⟨A, T⟩ := hp _ S1 (by omega) ok
        have A1 := P1.adv ok1
        have b2 := S2.2.1
        have a4 := A.2.2.2.1
        have a3 := A.2.2.1
        have hl2 : p (psH (skH g)) (v + 33) 1 < 1600 := by omega
        have AA := (hA.tr A1).tr A
        have B4 := hA.2.2.2.1
        have pin := put_in (t := t) hv hl2
        refine ⟨?_, Adv_put hv AA hl2 (by omega), Typ_put (dp := dq + 1) (st := [true, true]) hv AA.2.2.1 hl2 ?_ (fun ks hks => tks.2.2.2.2.1 _ ht)⟩
        · rw [pin.1, pin.2.2]; omega
        · refine Typ_seq (g := psH (skH g)) (dp := dq + 1) (dq := dq) (st := [true]) (st2 := [true]) hv (by have := hA.2.2.1; omega) A (fun ks hks => ?_) (fun ks hks => T ks hks) (by simp)
          rw [p1.2.2.1, show psH (skH g) (v + 38) = g (v + 38) from funext p1.2.2.2]
          exact hT ks hks
      · rw [if_neg q]
        intro ok
        have p0 := P0 ok
        refine ⟨hA.tr (P0.adv ok), fun ks hks => ?_⟩
        rw [p0.2.2.1, show skH g (v + 38) = g (v + 38) from funext p0.2.2.2]
        exact hT ks hks
theorem AdT_bt {p : mmH → mmH} {dq : Nat} (hv : v = 5 ∨ v = 46) (hi : ∀ g, Sc v g → Sc v (p g)) (hk : ∀ g, Stk g (p g)) (hp : ∀ g, Sc v g → g (v + 33) 1 ≤ g 3 4 → AdT v dq true g (p g)) (hS : Sc v g) (hD : g (v + 33) 1 ≤ g 3 4) : AdT v (dq + 1) true g (btF v p g) :=
  AdT_wlp hv (by omega) (Or.inr rfl) hi hk hp 1600 _ (hi _ hS) (fun ok => ⟨(hp _ hS hD ok).1.D hD, (hp _ hS hD ok).1, fun ks hks => (hp _ hS hD ok).2 ks (by omega)⟩)
theorem AdT_te {p : mmH → mmH} {dq : Nat} (hv : v = 5 ∨ v = 46) (hi : ∀ g, Sc v g → Sc v (p g)) (hk : ∀ g, Stk g (p g)) (hp : ∀ g, Sc v g → g (v + 33) 1 ≤ g 3 4 → AdT v dq true g (p g)) (hS : Sc v g) (hD : g (v + 33) 1 ≤ g 3 4) : AdT v (dq + 2) true g (teF v p g) :=
  AdT_wlp hv (by omega) (Or.inl rfl) (fun _ q => Sc_bt hv hi q) (fun _ => sk_bt hk) (fun _ q1 q2 => AdT_bt hv hi hk hp q1 q2) 1600 _ (Sc_bt hv hi hS) (fun ok => ⟨(AdT_bt hv hi hk hp hS hD ok).1.D hD, (AdT_bt hv hi hk hp hS hD ok).1, fun ks hks => (AdT_bt hv hi hk hp hS hD ok).2 ks (by omega)⟩)
theorem AdT_fc (hv : v = 5 ∨ v = 46) : ∀ (n : Nat) (o : Int) (g : mmH), 7 ≤ n + o → o ≤ 6 → 0 ≤ o → Sc v g → g (v + 33) 1 ≤ g 3 4 → AdT v (22 + 2 * n) true g (fcL v n o g)
  | 0, _, _, h7, h6, _, _, _ => absurd h7 (by omega)
  | n + 1, o, g, h7, h6, h0, hS, hD => by
    have h := Sc_sk hv hS
    have hm := Sc_may (o := o) hv h
    have P0 := pl_sk hv hS
    have l0 := (skH_at hS).1
    have hk := sk_fc (v := v) n (o + 1)
    have hi := Sc_fc hv n (o + 1)
    have ih : o < 6 → ∀ a, Sc v a → a (v + 33) 1 ≤ a 3 4 → AdT v (22 + 2 * n) true a (fcL v n (o + 1) a) := fun z a q1 q2 => AdT_fc hv n (o + 1) a (by omega) (by omega) (by omega) q1 q2
    unfold fcL fcF
    by_cases c : g 3 0 ≠ 0
    · rw [if_pos c]; exact fun ok => absurd ok c
    · rw [if_neg c]
      by_cases c1 : wdV (skH g) = 25
      · rw [if_pos c1]
        by_cases c3 : mayH o (skH g) 3 0 ≠ 0
        · rw [if_pos c3]; exact fun ok => absurd ok c3
        · rw [if_neg c3]
          have c3 := Decidable.of_not_not c3
          have z := (mayH_ok c3).1
          have em := (mayH_ok c3).2
          rw [em]
          have S1 := Sc_ps hv h
          have P1 : Plain v g (psH (skH g)) := P0.tr (pl_ps hv h)
          intro ok
          rw [put_ok hv] at ok
          have ok1 := stk_back (hk _) ok
          have p1 := P1 ok1
          have l1 := ps_len h c1 (by omega)
          obtain ⟨A, T⟩ := ih z _ S1 (by omega) ok
          have b2 := (hi _ S1).2.1
          have a4 := A.2.2.2.1
          have AA := (P1.adv ok1).tr A
          refine ⟨Adv_put hv AA (by omega) (by omega), Typ_put (dp := 22 + 2 * (n + 1)) (st := [true]) hv AA.2.2.1 (by omega) (fun ks hks => ?_) (fun ks hks => tks.2.2.2.1)⟩
          rw [← p1.2.2.1]
          exact T ks (by omega)
      · rw [if_neg c1]
        by_cases c2 : wdV (skH g) = 26
        · rw [if_pos c2]
          have S1 := Sc_ps hv h
          have b := S1.2.1
          refine AdT_one hv hD (P0.tr (pl_ps hv h)) (by have := ps_len h c2 (by omega); omega) (by omega) (fun ks hks => ?_)
          exact tks.2.2.1 (by show ([] ++ ks).length < 64; rw [List.nil_append]; omega)
        · rw [if_neg c2]
          by_cases c4 : hrV (skH g) = 91
          · rw [if_pos c4]
            by_cases c3 : mayH o (skH g) 3 0 ≠ 0
            · rw [if_pos c3]; exact fun ok => absurd ok c3
            · rw [if_neg c3]
              have c3 := Decidable.of_not_not c3
              have z := (mayH_ok c3).1
              have S1 := Sc_ts (c := 91) hv (by omega) hm
              have P1 : Plain v g (tsH 91 (mayH o (skH g))) := (P0.tr (may_ok c3)).tr (pl_ts hv hm)
              intro ok
              have P2 := pl_ts (c := 93) hv (Sc_te hv hi S1)
              have ok2 := (P2 ok).1
              have ok1 := stk_back (sk_te hk) ok2
              have p1 := P1 ok1
              obtain ⟨a, b⟩ := AdT_wrap (dp := 22 + 2 * n + 2) (kd := true) P1 (AdT_te hv hi hk (ih z) S1 (by omega)) P2 ok
              exact ⟨a, fun ks hks => b ks (by omega)⟩
          · rw [if_neg c4]
            intro ok
            have ok0 : skH g 3 0 = 0 := by rw [skH_30]; exact Decidable.of_not_not c
            have p0 := P0 ok0
            obtain ⟨a, b⟩ := AdT_wrap (dp := 21 + 1) (kd := true) P0 (AdT_cmp (dq := 21) hv (Sc_sm hv 7 o) (sk_sm 7 o) (fun b q1 q2 => AdT_sm hv 7 o b (by omega) (by omega) h6 q1 q2) h (by omega)) (Plain.tr (fun q => ⟨q, Int.le_refl _, rfl, fun _ => rfl⟩) (fun q => ⟨q, Int.le_refl _, rfl, fun _ => rfl⟩)) ok
            exact ⟨a, fun ks hks => b ks (by omega)⟩
/-- a whole test, a whole sum -/
theorem AdT_test0 (hv : v = 5 ∨ v = 46) (hS : Sc v g) (hD : g (v + 33) 1 ≤ g 3 4) : AdT v 38 true g (teF v (fcL v 7 0) g) := AdT_te (dq := 36) hv (Sc_fc hv 7 0) (sk_fc 7 0) (fun a q1 q2 => AdT_fc hv 7 0 a (by omega) (by omega) (by omega) q1 q2) hS hD
theorem AdT_sum0 (hv : v = 5 ∨ v = 46) (hS : Sc v g) (hD : g (v + 33) 1 ≤ g 3 4) : AdT v 21 false g (smL v 7 0 g) := AdT_sm hv 7 0 g (by omega) (by omega) (by omega) hS hD
end T2
